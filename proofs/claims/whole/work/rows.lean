section
-- ===== PART A: goes FIRST, ahead of the names: the tables' words, and 'selects' of the private methods out of them =====
/-- a private method of a class that the tables say can be made, by its rows of tables_1 -/
def lw_okq (q : MethodName × Nat) : Prop := (q.1.cls ≠ "java/lang/invoke/MethodHandle" ∧ q.1.cls ≠ "java/lang/invoke/VarHandle") ∧ Cond.instantiable q.1.cls q.2 ∈ tables_1 ∧ Cond.privateMethod q.1 ∈ tables_1 ∧ Cond.instanceMethod q.1 ∈ tables_1
theorem lw_p0 : lw_okq (⟨"PermGroup", "begin", "(I)V"⟩, 7) := ⟨⟨by decide +kernel, by decide +kernel⟩, List.mem_of_getElem? (i := 11) (by decide +kernel), List.mem_of_getElem? (i := 21) (by decide +kernel), List.mem_of_getElem? (i := 22) (by decide +kernel)⟩
theorem lw_p1 : lw_okq (⟨"PermGroup", "isPermutation", "(I)Z"⟩, 7) := ⟨⟨by decide +kernel, by decide +kernel⟩, List.mem_of_getElem? (i := 11) (by decide +kernel), List.mem_of_getElem? (i := 63) (by decide +kernel), List.mem_of_getElem? (i := 64) (by decide +kernel)⟩
theorem lw_p2 : lw_okq (⟨"PermGroup", "extendBy", "(I)V"⟩, 7) := ⟨⟨by decide +kernel, by decide +kernel⟩, List.mem_of_getElem? (i := 11) (by decide +kernel), List.mem_of_getElem? (i := 73) (by decide +kernel), List.mem_of_getElem? (i := 74) (by decide +kernel)⟩
theorem lw_p3 : lw_okq (⟨"PermGroup", "listFilled", "()V"⟩, 7) := ⟨⟨by decide +kernel, by decide +kernel⟩, List.mem_of_getElem? (i := 11) (by decide +kernel), List.mem_of_getElem? (i := 77) (by decide +kernel), List.mem_of_getElem? (i := 78) (by decide +kernel)⟩
theorem lw_p4 : lw_okq (⟨"PermGroup", "entry", "(II)I"⟩, 7) := ⟨⟨by decide +kernel, by decide +kernel⟩, List.mem_of_getElem? (i := 11) (by decide +kernel), List.mem_of_getElem? (i := 81) (by decide +kernel), List.mem_of_getElem? (i := 82) (by decide +kernel)⟩
theorem lw_p5 : lw_okq (⟨"PermGroup", "noteFilled", "(I)V"⟩, 7) := ⟨⟨by decide +kernel, by decide +kernel⟩, List.mem_of_getElem? (i := 11) (by decide +kernel), List.mem_of_getElem? (i := 85) (by decide +kernel), List.mem_of_getElem? (i := 86) (by decide +kernel)⟩
theorem lw_p6 : lw_okq (⟨"PermGroup", "enter", "(I)V"⟩, 7) := ⟨⟨by decide +kernel, by decide +kernel⟩, List.mem_of_getElem? (i := 11) (by decide +kernel), List.mem_of_getElem? (i := 89) (by decide +kernel), List.mem_of_getElem? (i := 90) (by decide +kernel)⟩
theorem lw_p7 : lw_okq (⟨"PermGroup", "residue", "(I)I"⟩, 7) := ⟨⟨by decide +kernel, by decide +kernel⟩, List.mem_of_getElem? (i := 11) (by decide +kernel), List.mem_of_getElem? (i := 93) (by decide +kernel), List.mem_of_getElem? (i := 94) (by decide +kernel)⟩
theorem lw_p8 : lw_okq (⟨"PermGroup", "invert", "(I)I"⟩, 7) := ⟨⟨by decide +kernel, by decide +kernel⟩, List.mem_of_getElem? (i := 11) (by decide +kernel), List.mem_of_getElem? (i := 97) (by decide +kernel), List.mem_of_getElem? (i := 98) (by decide +kernel)⟩
theorem lw_p9 : lw_okq (⟨"PermGroup", "compose", "(II)I"⟩, 7) := ⟨⟨by decide +kernel, by decide +kernel⟩, List.mem_of_getElem? (i := 11) (by decide +kernel), List.mem_of_getElem? (i := 101) (by decide +kernel), List.mem_of_getElem? (i := 102) (by decide +kernel)⟩
theorem lw_p10 : lw_okq (⟨"PermGroup", "isFull", "()Z"⟩, 7) := ⟨⟨by decide +kernel, by decide +kernel⟩, List.mem_of_getElem? (i := 11) (by decide +kernel), List.mem_of_getElem? (i := 105) (by decide +kernel), List.mem_of_getElem? (i := 106) (by decide +kernel)⟩
theorem lw_p11 : lw_okq (⟨"PermGroup", "enterProduct", "(II)V"⟩, 7) := ⟨⟨by decide +kernel, by decide +kernel⟩, List.mem_of_getElem? (i := 11) (by decide +kernel), List.mem_of_getElem? (i := 109) (by decide +kernel), List.mem_of_getElem? (i := 110) (by decide +kernel)⟩
theorem lw_p12 : lw_okq (⟨"PermGroup", "fixersOfFirst", "(I)I"⟩, 7) := ⟨⟨by decide +kernel, by decide +kernel⟩, List.mem_of_getElem? (i := 11) (by decide +kernel), List.mem_of_getElem? (i := 137) (by decide +kernel), List.mem_of_getElem? (i := 138) (by decide +kernel)⟩
theorem lw_p13 : lw_okq (⟨"PermGroup", "isElement", "(I)Z"⟩, 7) := ⟨⟨by decide +kernel, by decide +kernel⟩, List.mem_of_getElem? (i := 11) (by decide +kernel), List.mem_of_getElem? (i := 145) (by decide +kernel), List.mem_of_getElem? (i := 146) (by decide +kernel)⟩
theorem lw_p14 : lw_okq (⟨"PermGroup", "imagesOf", "(II)I"⟩, 7) := ⟨⟨by decide +kernel, by decide +kernel⟩, List.mem_of_getElem? (i := 11) (by decide +kernel), List.mem_of_getElem? (i := 153) (by decide +kernel), List.mem_of_getElem? (i := 154) (by decide +kernel)⟩
theorem lw_p15 : lw_okq (⟨"PermGroup", "isOdd", "(I)Z"⟩, 7) := ⟨⟨by decide +kernel, by decide +kernel⟩, List.mem_of_getElem? (i := 11) (by decide +kernel), List.mem_of_getElem? (i := 165) (by decide +kernel), List.mem_of_getElem? (i := 166) (by decide +kernel)⟩
def lw_privs_1 : List (MethodName × Nat) := [(⟨"PermGroup", "begin", "(I)V"⟩, 7), (⟨"PermGroup", "isPermutation", "(I)Z"⟩, 7), (⟨"PermGroup", "extendBy", "(I)V"⟩, 7), (⟨"PermGroup", "listFilled", "()V"⟩, 7), (⟨"PermGroup", "entry", "(II)I"⟩, 7), (⟨"PermGroup", "noteFilled", "(I)V"⟩, 7), (⟨"PermGroup", "enter", "(I)V"⟩, 7), (⟨"PermGroup", "residue", "(I)I"⟩, 7), (⟨"PermGroup", "invert", "(I)I"⟩, 7), (⟨"PermGroup", "compose", "(II)I"⟩, 7), (⟨"PermGroup", "isFull", "()Z"⟩, 7), (⟨"PermGroup", "enterProduct", "(II)V"⟩, 7), (⟨"PermGroup", "fixersOfFirst", "(I)I"⟩, 7), (⟨"PermGroup", "isElement", "(I)Z"⟩, 7), (⟨"PermGroup", "imagesOf", "(II)I"⟩, 7), (⟨"PermGroup", "isOdd", "(I)Z"⟩, 7)]
theorem lw_r1 : ∀ q ∈ lw_privs_1, lw_okq q := List.forall_mem_cons.mpr ⟨lw_p0, List.forall_mem_cons.mpr ⟨lw_p1, List.forall_mem_cons.mpr ⟨lw_p2, List.forall_mem_cons.mpr ⟨lw_p3, List.forall_mem_cons.mpr ⟨lw_p4, List.forall_mem_cons.mpr ⟨lw_p5, List.forall_mem_cons.mpr ⟨lw_p6, List.forall_mem_cons.mpr ⟨lw_p7, List.forall_mem_cons.mpr ⟨lw_p8, List.forall_mem_cons.mpr ⟨lw_p9, List.forall_mem_cons.mpr ⟨lw_p10, List.forall_mem_cons.mpr ⟨lw_p11, List.forall_mem_cons.mpr ⟨lw_p12, List.forall_mem_cons.mpr ⟨lw_p13, List.forall_mem_cons.mpr ⟨lw_p14, List.forall_mem_cons.mpr ⟨lw_p15, fun _ h => absurd h List.not_mem_nil⟩⟩⟩⟩⟩⟩⟩⟩⟩⟩⟩⟩⟩⟩⟩⟩
theorem lw_p16 : lw_okq (⟨"java/lang/Throwable", "fillInStackTrace", "(I)Ljava/lang/Throwable;"⟩, 6) := ⟨⟨by decide +kernel, by decide +kernel⟩, List.mem_of_getElem? (i := 215) (by decide +kernel), List.mem_of_getElem? (i := 213) (by decide +kernel), List.mem_of_getElem? (i := 214) (by decide +kernel)⟩
theorem lw_p17 : lw_okq (⟨"PermGroup", "inCoset", "(II)I"⟩, 7) := ⟨⟨by decide +kernel, by decide +kernel⟩, List.mem_of_getElem? (i := 11) (by decide +kernel), List.mem_of_getElem? (i := 245) (by decide +kernel), List.mem_of_getElem? (i := 246) (by decide +kernel)⟩
theorem lw_p18 : lw_okq (⟨"PermGroup", "elementsBefore", "(I)I"⟩, 7) := ⟨⟨by decide +kernel, by decide +kernel⟩, List.mem_of_getElem? (i := 11) (by decide +kernel), List.mem_of_getElem? (i := 290) (by decide +kernel), List.mem_of_getElem? (i := 291) (by decide +kernel)⟩
theorem lw_p19 : lw_okq (⟨"PermGroup", "entriesBelow", "(III)I"⟩, 7) := ⟨⟨by decide +kernel, by decide +kernel⟩, List.mem_of_getElem? (i := 11) (by decide +kernel), List.mem_of_getElem? (i := 294) (by decide +kernel), List.mem_of_getElem? (i := 295) (by decide +kernel)⟩
theorem lw_p20 : lw_okq (⟨"PermGroupModel", "isPermutation", "(I)Z"⟩, 7) := ⟨⟨by decide +kernel, by decide +kernel⟩, List.mem_of_getElem? (i := 305) (by decide +kernel), List.mem_of_getElem? (i := 346) (by decide +kernel), List.mem_of_getElem? (i := 347) (by decide +kernel)⟩
theorem lw_p21 : lw_okq (⟨"PermGroupModel", "times", "(II)I"⟩, 7) := ⟨⟨by decide +kernel, by decide +kernel⟩, List.mem_of_getElem? (i := 305) (by decide +kernel), List.mem_of_getElem? (i := 369) (by decide +kernel), List.mem_of_getElem? (i := 370) (by decide +kernel)⟩
theorem lw_p22 : lw_okq (⟨"PermGroupModel", "back", "(I)I"⟩, 7) := ⟨⟨by decide +kernel, by decide +kernel⟩, List.mem_of_getElem? (i := 305) (by decide +kernel), List.mem_of_getElem? (i := 377) (by decide +kernel), List.mem_of_getElem? (i := 378) (by decide +kernel)⟩
theorem lw_p23 : lw_okq (⟨"PermGroupModel", "fill", "()V"⟩, 7) := ⟨⟨by decide +kernel, by decide +kernel⟩, List.mem_of_getElem? (i := 305) (by decide +kernel), List.mem_of_getElem? (i := 385) (by decide +kernel), List.mem_of_getElem? (i := 386) (by decide +kernel)⟩
theorem lw_p24 : lw_okq (⟨"PermGroupModel", "permutation", "(I)I"⟩, 7) := ⟨⟨by decide +kernel, by decide +kernel⟩, List.mem_of_getElem? (i := 305) (by decide +kernel), List.mem_of_getElem? (i := 389) (by decide +kernel), List.mem_of_getElem? (i := 390) (by decide +kernel)⟩
theorem lw_p25 : lw_okq (⟨"PermGroupModel", "free", "(III)I"⟩, 7) := ⟨⟨by decide +kernel, by decide +kernel⟩, List.mem_of_getElem? (i := 305) (by decide +kernel), List.mem_of_getElem? (i := 393) (by decide +kernel), List.mem_of_getElem? (i := 394) (by decide +kernel)⟩
theorem lw_p26 : lw_okq (⟨"PermGroupModel", "numberOf", "(I)I"⟩, 7) := ⟨⟨by decide +kernel, by decide +kernel⟩, List.mem_of_getElem? (i := 305) (by decide +kernel), List.mem_of_getElem? (i := 400) (by decide +kernel), List.mem_of_getElem? (i := 401) (by decide +kernel)⟩
theorem lw_p27 : lw_okq (⟨"PermGroupModel", "all", "()I"⟩, 7) := ⟨⟨by decide +kernel, by decide +kernel⟩, List.mem_of_getElem? (i := 305) (by decide +kernel), List.mem_of_getElem? (i := 404) (by decide +kernel), List.mem_of_getElem? (i := 405) (by decide +kernel)⟩
theorem lw_p28 : lw_okq (⟨"PermGroupModel", "below", "(I)I"⟩, 7) := ⟨⟨by decide +kernel, by decide +kernel⟩, List.mem_of_getElem? (i := 305) (by decide +kernel), List.mem_of_getElem? (i := 408) (by decide +kernel), List.mem_of_getElem? (i := 409) (by decide +kernel)⟩
def lw_privs_2 : List (MethodName × Nat) := [(⟨"java/lang/Throwable", "fillInStackTrace", "(I)Ljava/lang/Throwable;"⟩, 6), (⟨"PermGroup", "inCoset", "(II)I"⟩, 7), (⟨"PermGroup", "elementsBefore", "(I)I"⟩, 7), (⟨"PermGroup", "entriesBelow", "(III)I"⟩, 7), (⟨"PermGroupModel", "isPermutation", "(I)Z"⟩, 7), (⟨"PermGroupModel", "times", "(II)I"⟩, 7), (⟨"PermGroupModel", "back", "(I)I"⟩, 7), (⟨"PermGroupModel", "fill", "()V"⟩, 7), (⟨"PermGroupModel", "permutation", "(I)I"⟩, 7), (⟨"PermGroupModel", "free", "(III)I"⟩, 7), (⟨"PermGroupModel", "numberOf", "(I)I"⟩, 7), (⟨"PermGroupModel", "all", "()I"⟩, 7), (⟨"PermGroupModel", "below", "(I)I"⟩, 7)]
theorem lw_r2 : ∀ q ∈ lw_privs_2, lw_okq q := List.forall_mem_cons.mpr ⟨lw_p16, List.forall_mem_cons.mpr ⟨lw_p17, List.forall_mem_cons.mpr ⟨lw_p18, List.forall_mem_cons.mpr ⟨lw_p19, List.forall_mem_cons.mpr ⟨lw_p20, List.forall_mem_cons.mpr ⟨lw_p21, List.forall_mem_cons.mpr ⟨lw_p22, List.forall_mem_cons.mpr ⟨lw_p23, List.forall_mem_cons.mpr ⟨lw_p24, List.forall_mem_cons.mpr ⟨lw_p25, List.forall_mem_cons.mpr ⟨lw_p26, List.forall_mem_cons.mpr ⟨lw_p27, List.forall_mem_cons.mpr ⟨lw_p28, fun _ h => absurd h List.not_mem_nil⟩⟩⟩⟩⟩⟩⟩⟩⟩⟩⟩⟩⟩
def lw_privs : List (MethodName × Nat) := lw_privs_1 ++ (lw_privs_2)
def lw_tbl : List Cond := k2_sels lw_privs ++ tables_1
theorem lw_privs_ok : ∀ q ∈ lw_privs, lw_okq q := by
  show ∀ q ∈ lw_privs_1 ++ (lw_privs_2), lw_okq q
  exact List.forall_mem_append.mpr ⟨lw_r1, lw_r2⟩
-- ===== end of PART A; then your names; then what follows =====
end
section
/-! ===== BEGIN words of one list among another's, by their places ===== -/
theorem goodIn_r {big : List Cond} (ws : List Cond) (ps : List Nat) (hp : ws = ps.filterMap (fun i => big[i]?)) (h : ws.all goodWord = true) : GoodIn big ws := by
  intro w hw
  have h1 := List.all_eq_true.mp h w hw
  rw [hp] at hw
  obtain ⟨i, -, hi⟩ := List.mem_filterMap.mp hw
  have hm : w ∈ big := by first | exact List.mem_of_getElem? hi | exact List.getElem?_mem hi
  exact ⟨hm, good_of_word h1⟩
theorem goodIn_app {big a b : List Cond} (ha : GoodIn big a) (hb : GoodIn big b) : GoodIn big (a ++ b) := fun w h => (List.mem_append.mp h).elim (ha w) (hb w)
theorem goodIn_ca {big a b : List Cond} {c : Cond} (ha : GoodIn big (c :: a)) (hb : GoodIn big b) : GoodIn big (c :: (a ++ b)) := fun w h => (List.mem_cons.mp h).elim (fun e => ha w (List.mem_cons.mpr (Or.inl e))) (fun h => (List.mem_append.mp h).elim (fun h => ha w (List.mem_cons.mpr (Or.inr h))) (hb w))
theorem goodIn_sub {big ws : List Cond} (hm : ∀ w ∈ ws, w ∈ big) (h : ws.all goodWord = true) : GoodIn big ws := fun w hw => ⟨hm w hw, good_of_word (List.all_eq_true.mp h w hw)⟩
/-! ===== END ===== -/
end
section
/-! ===== BEGIN printed: names, fields, word lists, decode rows ===== -/
def RX0 : String := "PermGroup"
def TX0 : u_T := fun k => match k with
  | 0 => ("PermGroup", "n", "I", false)
  | 1 => ("PermGroup", "identity", "I", false)
  | 2 => ("PermGroup", "count", "I", false)
  | 3 => ("PermGroup", "added", "[I", true)
  | 4 => ("PermGroup", "chains", "[[I", true)
  | 5 => ("PermGroup", "filled", "[I", true)
  | _ => ("PermGroup", "filledCount", "I", false)
def tyX0 : Nat → FieldType := fun k => match k with
  | 0 => .int
  | 1 => .int
  | 2 => .int
  | 3 => .array .int
  | 4 => .array (.array .int)
  | 5 => .array .int
  | _ => .int
abbrev wsX00 : List Cond := u_ws RX0 TX0 7
theorem nmX0 : ∀ a, a < 7 → ∀ b, b < 7 → a ≠ b → (TX0 a).2.1 ≠ (TX0 b).2.1 := by decide +kernel
theorem tyX0_ok : ∀ k, k < 7 → parseFieldDescriptor (TX0 k).2.2.1 = some (tyX0 k) := by decide +kernel
abbrev cX0_init : ByteArray := prog_1_method_1_code
def yX0_init : MethodName := ⟨RX0, "<init>", "()V"⟩
abbrev cX0_points : ByteArray := prog_1_method_2_code
def yX0_points : MethodName := ⟨RX0, "points", "(I)Z"⟩
abbrev cX0_degree : ByteArray := prog_1_method_3_code
def yX0_degree : MethodName := ⟨RX0, "degree", "()I"⟩
abbrev cX0_add : ByteArray := prog_1_method_4_code
def yX0_add : MethodName := ⟨RX0, "add", "(I)I"⟩
abbrev cX0_drop : ByteArray := prog_1_method_5_code
def yX0_drop : MethodName := ⟨RX0, "drop", "()Z"⟩
abbrev cX0_generators : ByteArray := prog_1_method_6_code
def yX0_generators : MethodName := ⟨RX0, "generators", "()I"⟩
abbrev cX0_generator : ByteArray := prog_1_method_7_code
def yX0_generator : MethodName := ⟨RX0, "generator", "(I)I"⟩
abbrev cX0_product : ByteArray := prog_1_method_8_code
def yX0_product : MethodName := ⟨RX0, "product", "(II)I"⟩
abbrev cX0_inverse : ByteArray := prog_1_method_9_code
def yX0_inverse : MethodName := ⟨RX0, "inverse", "(I)I"⟩
abbrev cX0_order : ByteArray := prog_1_method_10_code
def yX0_order : MethodName := ⟨RX0, "order", "()I"⟩
abbrev cX0_contains : ByteArray := prog_1_method_11_code
def yX0_contains : MethodName := ⟨RX0, "contains", "(I)Z"⟩
abbrev cX0_element : ByteArray := prog_1_method_12_code
def yX0_element : MethodName := ⟨RX0, "element", "(I)I"⟩
abbrev cX0_rank : ByteArray := prog_1_method_13_code
def yX0_rank : MethodName := ⟨RX0, "rank", "(I)I"⟩
abbrev cX0_least : ByteArray := prog_1_method_14_code
def yX0_least : MethodName := ⟨RX0, "least", "(I)I"⟩
abbrev cX0_orbit : ByteArray := prog_1_method_15_code
def yX0_orbit : MethodName := ⟨RX0, "orbit", "(I)I"⟩
abbrev cX0_fixing : ByteArray := prog_1_method_16_code
def yX0_fixing : MethodName := ⟨RX0, "fixing", "(I)I"⟩
abbrev cX0_even : ByteArray := prog_1_method_17_code
def yX0_even : MethodName := ⟨RX0, "even", "()I"⟩
abbrev cX0_begin : ByteArray := prog_1_method_18_code
def yX0_begin : MethodName := ⟨RX0, "begin", "(I)V"⟩
abbrev cX0_isPermutation : ByteArray := prog_1_method_19_code
def yX0_isPermutation : MethodName := ⟨RX0, "isPermutation", "(I)Z"⟩
abbrev cX0_image : ByteArray := prog_1_method_20_code
def yX0_image : MethodName := ⟨RX0, "image", "(II)I"⟩
abbrev cX0_compose : ByteArray := prog_1_method_21_code
def yX0_compose : MethodName := ⟨RX0, "compose", "(II)I"⟩
abbrev cX0_invert : ByteArray := prog_1_method_22_code
def yX0_invert : MethodName := ⟨RX0, "invert", "(I)I"⟩
abbrev cX0_isOdd : ByteArray := prog_1_method_23_code
def yX0_isOdd : MethodName := ⟨RX0, "isOdd", "(I)Z"⟩
abbrev cX0_imagesOf : ByteArray := prog_1_method_24_code
def yX0_imagesOf : MethodName := ⟨RX0, "imagesOf", "(II)I"⟩
abbrev cX0_slotOf : ByteArray := prog_1_method_25_code
def yX0_slotOf : MethodName := ⟨RX0, "slotOf", "(II)I"⟩
abbrev cX0_entry : ByteArray := prog_1_method_26_code
def yX0_entry : MethodName := ⟨RX0, "entry", "(II)I"⟩
abbrev cX0_fixersOfFirst : ByteArray := prog_1_method_27_code
def yX0_fixersOfFirst : MethodName := ⟨RX0, "fixersOfFirst", "(I)I"⟩
abbrev cX0_residue : ByteArray := prog_1_method_28_code
def yX0_residue : MethodName := ⟨RX0, "residue", "(I)I"⟩
abbrev cX0_isElement : ByteArray := prog_1_method_29_code
def yX0_isElement : MethodName := ⟨RX0, "isElement", "(I)Z"⟩
abbrev cX0_extendBy : ByteArray := prog_1_method_30_code
def yX0_extendBy : MethodName := ⟨RX0, "extendBy", "(I)V"⟩
abbrev cX0_listFilled : ByteArray := prog_1_method_31_code
def yX0_listFilled : MethodName := ⟨RX0, "listFilled", "()V"⟩
abbrev cX0_noteFilled : ByteArray := prog_1_method_32_code
def yX0_noteFilled : MethodName := ⟨RX0, "noteFilled", "(I)V"⟩
abbrev cX0_isFull : ByteArray := prog_1_method_33_code
def yX0_isFull : MethodName := ⟨RX0, "isFull", "()Z"⟩
abbrev cX0_enterProduct : ByteArray := prog_1_method_34_code
def yX0_enterProduct : MethodName := ⟨RX0, "enterProduct", "(II)V"⟩
abbrev cX0_enter : ByteArray := prog_1_method_35_code
def yX0_enter : MethodName := ⟨RX0, "enter", "(I)V"⟩
abbrev cX0_inCoset : ByteArray := prog_1_method_36_code
def yX0_inCoset : MethodName := ⟨RX0, "inCoset", "(II)I"⟩
abbrev cX0_elementsBefore : ByteArray := prog_1_method_37_code
def yX0_elementsBefore : MethodName := ⟨RX0, "elementsBefore", "(I)I"⟩
abbrev cX0_entriesBelow : ByteArray := prog_1_method_38_code
def yX0_entriesBelow : MethodName := ⟨RX0, "entriesBelow", "(III)I"⟩
def RX1 : String := "PermGroupModel"
def TX1 : u_T := fun k => match k with
  | 0 => ("PermGroupModel", "factorials", "[I", true)
  | 1 => ("PermGroupModel", "gens", "[I", true)
  | 2 => ("PermGroupModel", "count", "I", false)
  | 3 => ("PermGroupModel", "n", "I", false)
  | 4 => ("PermGroupModel", "in", "[Z", true)
  | 5 => ("PermGroupModel", "waiting", "[I", true)
  | _ => ("PermGroupModel", "thrown", "I", false)
def tyX1 : Nat → FieldType := fun k => match k with
  | 0 => .array .int
  | 1 => .array .int
  | 2 => .int
  | 3 => .int
  | 4 => .array .boolean
  | 5 => .array .int
  | _ => .int
abbrev wsX10 : List Cond := u_ws RX1 TX1 7
theorem nmX1 : ∀ a, a < 7 → ∀ b, b < 7 → a ≠ b → (TX1 a).2.1 ≠ (TX1 b).2.1 := by decide +kernel
theorem tyX1_ok : ∀ k, k < 7 → parseFieldDescriptor (TX1 k).2.2.1 = some (tyX1 k) := by decide +kernel
abbrev cX1_init : ByteArray := prog_3_method_1_code
def yX1_init : MethodName := ⟨RX1, "<init>", "()V"⟩
abbrev cX1_image : ByteArray := prog_3_method_2_code
def yX1_image : MethodName := ⟨RX1, "image", "(II)I"⟩
abbrev cX1_isPermutation : ByteArray := prog_3_method_3_code
def yX1_isPermutation : MethodName := ⟨RX1, "isPermutation", "(I)Z"⟩
abbrev cX1_times : ByteArray := prog_3_method_4_code
def yX1_times : MethodName := ⟨RX1, "times", "(II)I"⟩
abbrev cX1_back : ByteArray := prog_3_method_5_code
def yX1_back : MethodName := ⟨RX1, "back", "(I)I"⟩
abbrev cX1_free : ByteArray := prog_3_method_6_code
def yX1_free : MethodName := ⟨RX1, "free", "(III)I"⟩
abbrev cX1_numberOf : ByteArray := prog_3_method_7_code
def yX1_numberOf : MethodName := ⟨RX1, "numberOf", "(I)I"⟩
abbrev cX1_permutation : ByteArray := prog_3_method_8_code
def yX1_permutation : MethodName := ⟨RX1, "permutation", "(I)I"⟩
abbrev cX1_isUsed : ByteArray := prog_3_method_9_code
def yX1_isUsed : MethodName := ⟨RX1, "isUsed", "(III)Z"⟩
abbrev cX1_all : ByteArray := prog_3_method_10_code
def yX1_all : MethodName := ⟨RX1, "all", "()I"⟩
abbrev cX1_fill : ByteArray := prog_3_method_11_code
def yX1_fill : MethodName := ⟨RX1, "fill", "()V"⟩
abbrev cX1_points : ByteArray := prog_3_method_12_code
def yX1_points : MethodName := ⟨RX1, "points", "(I)Z"⟩
abbrev cX1_degree : ByteArray := prog_3_method_13_code
def yX1_degree : MethodName := ⟨RX1, "degree", "()I"⟩
abbrev cX1_add : ByteArray := prog_3_method_14_code
def yX1_add : MethodName := ⟨RX1, "add", "(I)I"⟩
abbrev cX1_drop : ByteArray := prog_3_method_15_code
def yX1_drop : MethodName := ⟨RX1, "drop", "()Z"⟩
abbrev cX1_generators : ByteArray := prog_3_method_16_code
def yX1_generators : MethodName := ⟨RX1, "generators", "()I"⟩
abbrev cX1_generator : ByteArray := prog_3_method_17_code
def yX1_generator : MethodName := ⟨RX1, "generator", "(I)I"⟩
abbrev cX1_product : ByteArray := prog_3_method_18_code
def yX1_product : MethodName := ⟨RX1, "product", "(II)I"⟩
abbrev cX1_inverse : ByteArray := prog_3_method_19_code
def yX1_inverse : MethodName := ⟨RX1, "inverse", "(I)I"⟩
abbrev cX1_below : ByteArray := prog_3_method_20_code
def yX1_below : MethodName := ⟨RX1, "below", "(I)I"⟩
abbrev cX1_order : ByteArray := prog_3_method_21_code
def yX1_order : MethodName := ⟨RX1, "order", "()I"⟩
abbrev cX1_contains : ByteArray := prog_3_method_22_code
def yX1_contains : MethodName := ⟨RX1, "contains", "(I)Z"⟩
abbrev cX1_element : ByteArray := prog_3_method_23_code
def yX1_element : MethodName := ⟨RX1, "element", "(I)I"⟩
abbrev cX1_rank : ByteArray := prog_3_method_24_code
def yX1_rank : MethodName := ⟨RX1, "rank", "(I)I"⟩
abbrev cX1_least : ByteArray := prog_3_method_25_code
def yX1_least : MethodName := ⟨RX1, "least", "(I)I"⟩
abbrev cX1_orbit : ByteArray := prog_3_method_26_code
def yX1_orbit : MethodName := ⟨RX1, "orbit", "(I)I"⟩
abbrev cX1_fixing : ByteArray := prog_3_method_27_code
def yX1_fixing : MethodName := ⟨RX1, "fixing", "(I)I"⟩
abbrev cX1_even : ByteArray := prog_3_method_28_code
def yX1_even : MethodName := ⟨RX1, "even", "()I"⟩
abbrev cX1_thrown : ByteArray := prog_3_method_29_code
def yX1_thrown : MethodName := ⟨RX1, "thrown", "()I"⟩
def RJ0 : String := "java/lang/String"
def TJ0 : u_T := fun k => match k with
  | _ => ("", "", "", false)
def tyJ0 : Nat → FieldType := fun k => match k with
  | _ => .int
abbrev wsJ00 : List Cond := u_ws RJ0 TJ0 0
theorem nmJ0 : ∀ a, a < 0 → ∀ b, b < 0 → a ≠ b → (TJ0 a).2.1 ≠ (TJ0 b).2.1 := by decide +kernel
theorem tyJ0_ok : ∀ k, k < 0 → parseFieldDescriptor (TJ0 k).2.2.1 = some (tyJ0 k) := by decide +kernel
def RJ10 : String := "java/lang/System"
def TJ10 : u_T := fun k => match k with
  | _ => ("", "", "", false)
def tyJ10 : Nat → FieldType := fun k => match k with
  | _ => .int
abbrev wsJ100 : List Cond := u_ws RJ10 TJ10 0
theorem nmJ10 : ∀ a, a < 0 → ∀ b, b < 0 → a ≠ b → (TJ10 a).2.1 ≠ (TJ10 b).2.1 := by decide +kernel
theorem tyJ10_ok : ∀ k, k < 0 → parseFieldDescriptor (TJ10 k).2.2.1 = some (tyJ10 k) := by decide +kernel
def RL : String := "PermGroupLaw"
abbrev cL_element : ByteArray := method_3_code
def yL_element : MethodName := ⟨RL, "element", "(LPermGroup;I[J)I"⟩
abbrev cL_rank : ByteArray := method_4_code
def yL_rank : MethodName := ⟨RL, "rank", "(LPermGroup;I[J)I"⟩
abbrev cL_least : ByteArray := method_5_code
def yL_least : MethodName := ⟨RL, "least", "(LPermGroup;I[J)I"⟩
abbrev cL_law : ByteArray := code
def yL_law : MethodName := ⟨RL, "law", "([I)Z"⟩
def wsX0_slotOf : List Cond := .code yX0_slotOf cX0_slotOf 2 (some .int) :: ([])
def wsX0_begin : List Cond := .code yX0_begin cX0_begin 4 none :: ([.fieldLink RX0 25 "PermGroup" "n" "I", .fieldLink RX0 33 "PermGroup" "count" "I", .fieldLink RX0 66 "PermGroup" "identity" "I", .fieldLink RX0 15 "PermGroup" "chains" "[[I", .methodLink RX0 91 yX0_slotOf, .static yX0_slotOf, .initialized RX0, .code yX0_slotOf cX0_slotOf 2 (some .int)] ++ wsX00)
def wsX0_init : List Cond := .code yX0_init cX0_init 1 none :: ([.methodLink RX0 3 objectInit, .instanceMethod objectInit, .code objectInit ⟨#[0xb1]⟩ 1 none, .arrayClass .int, .fieldLink RX0 9 "PermGroup" "added" "[I", .classLink RX0 13 "[[I", .fieldLink RX0 15 "PermGroup" "chains" "[[I", .fieldLink RX0 18 "PermGroup" "filled" "[I", .methodLink RX0 21 yX0_begin, .instanceMethod yX0_begin, .selects RX0 yX0_begin yX0_begin, .initialized RX0, .code yX0_begin cX0_begin 4 none, .fieldLink RX0 25 "PermGroup" "n" "I", .fieldLink RX0 33 "PermGroup" "count" "I", .fieldLink RX0 66 "PermGroup" "identity" "I", .methodLink RX0 91 yX0_slotOf, .static yX0_slotOf, .code yX0_slotOf cX0_slotOf 2 (some .int)] ++ wsX00)
def wsX0_points : List Cond := .code yX0_points cX0_points 2 (some .boolean) :: ([.methodLink RX0 21 yX0_begin, .instanceMethod yX0_begin, .selects RX0 yX0_begin yX0_begin, .initialized RX0, .code yX0_begin cX0_begin 4 none, .fieldLink RX0 25 "PermGroup" "n" "I", .fieldLink RX0 33 "PermGroup" "count" "I", .fieldLink RX0 66 "PermGroup" "identity" "I", .fieldLink RX0 15 "PermGroup" "chains" "[[I", .methodLink RX0 91 yX0_slotOf, .static yX0_slotOf, .code yX0_slotOf cX0_slotOf 2 (some .int)] ++ wsX00)
def wsX0_degree : List Cond := .code yX0_degree cX0_degree 1 (some .int) :: ([.fieldLink RX0 25 "PermGroup" "n" "I"] ++ wsX00)
def wsX0_image : List Cond := .code yX0_image cX0_image 2 (some .int) :: ([])
def wsX0_isPermutation : List Cond := .code yX0_isPermutation cX0_isPermutation 4 (some .boolean) :: ([.fieldLink RX0 25 "PermGroup" "n" "I", .methodLink RX0 94 yX0_image, .static yX0_image, .initialized RX0, .code yX0_image cX0_image 2 (some .int)] ++ wsX00)
def wsX0_entry : List Cond := .code yX0_entry cX0_entry 3 (some .int) :: ([.fieldLink RX0 15 "PermGroup" "chains" "[[I", .fieldLink RX0 33 "PermGroup" "count" "I", .methodLink RX0 91 yX0_slotOf, .static yX0_slotOf, .initialized RX0, .code yX0_slotOf cX0_slotOf 2 (some .int)] ++ wsX00)
def wsX0_noteFilled : List Cond := .code yX0_noteFilled cX0_noteFilled 2 none :: ([.fieldLink RX0 106 "PermGroup" "filledCount" "I", .fieldLink RX0 18 "PermGroup" "filled" "[I"] ++ wsX00)
def wsX0_listFilled : List Cond := .code yX0_listFilled cX0_listFilled 3 none :: ([.fieldLink RX0 106 "PermGroup" "filledCount" "I", .fieldLink RX0 25 "PermGroup" "n" "I", .methodLink RX0 97 yX0_entry, .instanceMethod yX0_entry, .selects RX0 yX0_entry yX0_entry, .initialized RX0, .code yX0_entry cX0_entry 3 (some .int), .fieldLink RX0 15 "PermGroup" "chains" "[[I", .fieldLink RX0 33 "PermGroup" "count" "I", .methodLink RX0 91 yX0_slotOf, .static yX0_slotOf, .code yX0_slotOf cX0_slotOf 2 (some .int), .methodLink RX0 120 yX0_noteFilled, .instanceMethod yX0_noteFilled, .selects RX0 yX0_noteFilled yX0_noteFilled, .code yX0_noteFilled cX0_noteFilled 2 none, .fieldLink RX0 18 "PermGroup" "filled" "[I"] ++ wsX00)
def wsX0_invert : List Cond := .code yX0_invert cX0_invert 4 (some .int) :: ([.fieldLink RX0 25 "PermGroup" "n" "I", .methodLink RX0 94 yX0_image, .static yX0_image, .initialized RX0, .code yX0_image cX0_image 2 (some .int)] ++ wsX00)
def wsX0_compose : List Cond := .code yX0_compose cX0_compose 5 (some .int) :: ([.fieldLink RX0 25 "PermGroup" "n" "I", .methodLink RX0 94 yX0_image, .static yX0_image, .initialized RX0, .code yX0_image cX0_image 2 (some .int)] ++ wsX00)
def wsX0_residue : List Cond := .code yX0_residue cX0_residue 6 (some .int) :: ([.fieldLink RX0 25 "PermGroup" "n" "I", .methodLink RX0 94 yX0_image, .static yX0_image, .initialized RX0, .code yX0_image cX0_image 2 (some .int), .methodLink RX0 97 yX0_entry, .instanceMethod yX0_entry, .selects RX0 yX0_entry yX0_entry, .code yX0_entry cX0_entry 3 (some .int), .fieldLink RX0 15 "PermGroup" "chains" "[[I", .fieldLink RX0 33 "PermGroup" "count" "I", .methodLink RX0 91 yX0_slotOf, .static yX0_slotOf, .code yX0_slotOf cX0_slotOf 2 (some .int), .methodLink RX0 49 yX0_invert, .instanceMethod yX0_invert, .selects RX0 yX0_invert yX0_invert, .code yX0_invert cX0_invert 4 (some .int), .methodLink RX0 45 yX0_compose, .instanceMethod yX0_compose, .selects RX0 yX0_compose yX0_compose, .code yX0_compose cX0_compose 5 (some .int)] ++ wsX00)
def wsX0_enter_r1 : List Cond := [Cond.fieldLink RX0 25 "PermGroup" "n" "I", Cond.fieldLink RX0 15 "PermGroup" "chains" "[[I", Cond.fieldLink RX0 33 "PermGroup" "count" "I", Cond.methodLink RX0 100 yX0_residue, Cond.instanceMethod yX0_residue, Cond.selects RX0 yX0_residue yX0_residue, Cond.initialized RX0, Cond.code yX0_residue cX0_residue 6 (some .int), Cond.methodLink RX0 94 yX0_image, Cond.static yX0_image, Cond.code yX0_image cX0_image 2 (some .int), Cond.methodLink RX0 97 yX0_entry, Cond.instanceMethod yX0_entry, Cond.selects RX0 yX0_entry yX0_entry, Cond.code yX0_entry cX0_entry 3 (some .int), Cond.methodLink RX0 91 yX0_slotOf, Cond.static yX0_slotOf, Cond.code yX0_slotOf cX0_slotOf 2 (some .int), Cond.methodLink RX0 49 yX0_invert, Cond.instanceMethod yX0_invert, Cond.selects RX0 yX0_invert yX0_invert, Cond.code yX0_invert cX0_invert 4 (some .int), Cond.methodLink RX0 45 yX0_compose, Cond.instanceMethod yX0_compose]
def wsX0_enter_r2 : List Cond := [Cond.selects RX0 yX0_compose yX0_compose, Cond.code yX0_compose cX0_compose 5 (some .int), Cond.methodLink RX0 120 yX0_noteFilled, Cond.instanceMethod yX0_noteFilled, Cond.selects RX0 yX0_noteFilled yX0_noteFilled, Cond.code yX0_noteFilled cX0_noteFilled 2 none, Cond.fieldLink RX0 106 "PermGroup" "filledCount" "I", Cond.fieldLink RX0 18 "PermGroup" "filled" "[I"]
def wsX0_enter : List Cond := .code yX0_enter cX0_enter 5 none :: ((wsX0_enter_r1 ++ wsX0_enter_r2) ++ wsX00)
def wsX0_isFull : List Cond := .code yX0_isFull cX0_isFull 1 (some .boolean) :: ([.fieldLink RX0 106 "PermGroup" "filledCount" "I", .fieldLink RX0 25 "PermGroup" "n" "I"] ++ wsX00)
def wsX0_enterProduct_r1 : List Cond := [Cond.fieldLink RX0 15 "PermGroup" "chains" "[[I", Cond.fieldLink RX0 33 "PermGroup" "count" "I", Cond.methodLink RX0 45 yX0_compose, Cond.instanceMethod yX0_compose, Cond.selects RX0 yX0_compose yX0_compose, Cond.initialized RX0, Cond.code yX0_compose cX0_compose 5 (some .int), Cond.fieldLink RX0 25 "PermGroup" "n" "I", Cond.methodLink RX0 94 yX0_image, Cond.static yX0_image, Cond.code yX0_image cX0_image 2 (some .int), Cond.methodLink RX0 109 yX0_enter, Cond.instanceMethod yX0_enter, Cond.selects RX0 yX0_enter yX0_enter, Cond.code yX0_enter cX0_enter 5 none, Cond.methodLink RX0 100 yX0_residue, Cond.instanceMethod yX0_residue, Cond.selects RX0 yX0_residue yX0_residue, Cond.code yX0_residue cX0_residue 6 (some .int), Cond.methodLink RX0 97 yX0_entry, Cond.instanceMethod yX0_entry, Cond.selects RX0 yX0_entry yX0_entry, Cond.code yX0_entry cX0_entry 3 (some .int), Cond.methodLink RX0 91 yX0_slotOf]
def wsX0_enterProduct_r2 : List Cond := [Cond.static yX0_slotOf, Cond.code yX0_slotOf cX0_slotOf 2 (some .int), Cond.methodLink RX0 49 yX0_invert, Cond.instanceMethod yX0_invert, Cond.selects RX0 yX0_invert yX0_invert, Cond.code yX0_invert cX0_invert 4 (some .int), Cond.methodLink RX0 120 yX0_noteFilled, Cond.instanceMethod yX0_noteFilled, Cond.selects RX0 yX0_noteFilled yX0_noteFilled, Cond.code yX0_noteFilled cX0_noteFilled 2 none, Cond.fieldLink RX0 106 "PermGroup" "filledCount" "I", Cond.fieldLink RX0 18 "PermGroup" "filled" "[I"]
def wsX0_enterProduct : List Cond := .code yX0_enterProduct cX0_enterProduct 4 none :: ((wsX0_enterProduct_r1 ++ wsX0_enterProduct_r2) ++ wsX00)
def wsX0_extendBy_r1 : List Cond := [Cond.fieldLink RX0 106 "PermGroup" "filledCount" "I", Cond.fieldLink RX0 18 "PermGroup" "filled" "[I", Cond.methodLink RX0 103 yX0_listFilled, Cond.instanceMethod yX0_listFilled, Cond.selects RX0 yX0_listFilled yX0_listFilled, Cond.initialized RX0, Cond.code yX0_listFilled cX0_listFilled 3 none, Cond.fieldLink RX0 25 "PermGroup" "n" "I", Cond.methodLink RX0 97 yX0_entry, Cond.instanceMethod yX0_entry, Cond.selects RX0 yX0_entry yX0_entry, Cond.code yX0_entry cX0_entry 3 (some .int), Cond.fieldLink RX0 15 "PermGroup" "chains" "[[I", Cond.fieldLink RX0 33 "PermGroup" "count" "I", Cond.methodLink RX0 91 yX0_slotOf, Cond.static yX0_slotOf, Cond.code yX0_slotOf cX0_slotOf 2 (some .int), Cond.methodLink RX0 120 yX0_noteFilled, Cond.instanceMethod yX0_noteFilled, Cond.selects RX0 yX0_noteFilled yX0_noteFilled, Cond.code yX0_noteFilled cX0_noteFilled 2 none, Cond.methodLink RX0 109 yX0_enter, Cond.instanceMethod yX0_enter, Cond.selects RX0 yX0_enter yX0_enter]
def wsX0_extendBy_r2 : List Cond := [Cond.code yX0_enter cX0_enter 5 none, Cond.methodLink RX0 100 yX0_residue, Cond.instanceMethod yX0_residue, Cond.selects RX0 yX0_residue yX0_residue, Cond.code yX0_residue cX0_residue 6 (some .int), Cond.methodLink RX0 94 yX0_image, Cond.static yX0_image, Cond.code yX0_image cX0_image 2 (some .int), Cond.methodLink RX0 49 yX0_invert, Cond.instanceMethod yX0_invert, Cond.selects RX0 yX0_invert yX0_invert, Cond.code yX0_invert cX0_invert 4 (some .int), Cond.methodLink RX0 45 yX0_compose, Cond.instanceMethod yX0_compose, Cond.selects RX0 yX0_compose yX0_compose, Cond.code yX0_compose cX0_compose 5 (some .int), Cond.methodLink RX0 112 yX0_isFull, Cond.instanceMethod yX0_isFull, Cond.selects RX0 yX0_isFull yX0_isFull, Cond.code yX0_isFull cX0_isFull 1 (some .boolean), Cond.methodLink RX0 116 yX0_enterProduct, Cond.instanceMethod yX0_enterProduct, Cond.selects RX0 yX0_enterProduct yX0_enterProduct, Cond.code yX0_enterProduct cX0_enterProduct 4 none]
def wsX0_extendBy : List Cond := .code yX0_extendBy cX0_extendBy 5 none :: ((wsX0_extendBy_r1 ++ wsX0_extendBy_r2) ++ wsX00)
def wsX0_add_r1 : List Cond := [Cond.fieldLink RX0 33 "PermGroup" "count" "I", Cond.fieldLink RX0 9 "PermGroup" "added" "[I", Cond.fieldLink RX0 15 "PermGroup" "chains" "[[I", Cond.methodLink RX0 36 arraycopyName, Cond.native arraycopyName, Cond.static arraycopyName, Cond.initialized "java/lang/System", Cond.methodLink RX0 29 yX0_isPermutation, Cond.instanceMethod yX0_isPermutation, Cond.selects RX0 yX0_isPermutation yX0_isPermutation, Cond.initialized RX0, Cond.code yX0_isPermutation cX0_isPermutation 4 (some .boolean), Cond.fieldLink RX0 25 "PermGroup" "n" "I", Cond.methodLink RX0 94 yX0_image, Cond.static yX0_image, Cond.code yX0_image cX0_image 2 (some .int), Cond.methodLink RX0 42 yX0_extendBy, Cond.instanceMethod yX0_extendBy, Cond.selects RX0 yX0_extendBy yX0_extendBy, Cond.code yX0_extendBy cX0_extendBy 5 none, Cond.fieldLink RX0 106 "PermGroup" "filledCount" "I", Cond.fieldLink RX0 18 "PermGroup" "filled" "[I", Cond.methodLink RX0 103 yX0_listFilled, Cond.instanceMethod yX0_listFilled]
def wsX0_add_r2 : List Cond := [Cond.selects RX0 yX0_listFilled yX0_listFilled, Cond.code yX0_listFilled cX0_listFilled 3 none, Cond.methodLink RX0 97 yX0_entry, Cond.instanceMethod yX0_entry, Cond.selects RX0 yX0_entry yX0_entry, Cond.code yX0_entry cX0_entry 3 (some .int), Cond.methodLink RX0 91 yX0_slotOf, Cond.static yX0_slotOf, Cond.code yX0_slotOf cX0_slotOf 2 (some .int), Cond.methodLink RX0 120 yX0_noteFilled, Cond.instanceMethod yX0_noteFilled, Cond.selects RX0 yX0_noteFilled yX0_noteFilled, Cond.code yX0_noteFilled cX0_noteFilled 2 none, Cond.methodLink RX0 109 yX0_enter, Cond.instanceMethod yX0_enter, Cond.selects RX0 yX0_enter yX0_enter, Cond.code yX0_enter cX0_enter 5 none, Cond.methodLink RX0 100 yX0_residue, Cond.instanceMethod yX0_residue, Cond.selects RX0 yX0_residue yX0_residue, Cond.code yX0_residue cX0_residue 6 (some .int), Cond.methodLink RX0 49 yX0_invert, Cond.instanceMethod yX0_invert, Cond.selects RX0 yX0_invert yX0_invert]
def wsX0_add_r3 : List Cond := [Cond.code yX0_invert cX0_invert 4 (some .int), Cond.methodLink RX0 45 yX0_compose, Cond.instanceMethod yX0_compose, Cond.selects RX0 yX0_compose yX0_compose, Cond.code yX0_compose cX0_compose 5 (some .int), Cond.methodLink RX0 112 yX0_isFull, Cond.instanceMethod yX0_isFull, Cond.selects RX0 yX0_isFull yX0_isFull, Cond.code yX0_isFull cX0_isFull 1 (some .boolean), Cond.methodLink RX0 116 yX0_enterProduct, Cond.instanceMethod yX0_enterProduct, Cond.selects RX0 yX0_enterProduct yX0_enterProduct, Cond.code yX0_enterProduct cX0_enterProduct 4 none]
def wsX0_add : List Cond := .code yX0_add cX0_add 2 (some .int) :: ((wsX0_add_r1 ++ (wsX0_add_r2 ++ wsX0_add_r3)) ++ wsX00)
def wsX0_drop : List Cond := .code yX0_drop cX0_drop 1 (some .boolean) :: ([.fieldLink RX0 33 "PermGroup" "count" "I"] ++ wsX00)
def wsX0_generators : List Cond := .code yX0_generators cX0_generators 1 (some .int) :: ([.fieldLink RX0 33 "PermGroup" "count" "I"] ++ wsX00)
def wsX0_generator : List Cond := .code yX0_generator cX0_generator 2 (some .int) :: ([.fieldLink RX0 33 "PermGroup" "count" "I", .fieldLink RX0 9 "PermGroup" "added" "[I"] ++ wsX00)
def wsX0_product : List Cond := .code yX0_product cX0_product 3 (some .int) :: ([.methodLink RX0 29 yX0_isPermutation, .instanceMethod yX0_isPermutation, .selects RX0 yX0_isPermutation yX0_isPermutation, .initialized RX0, .code yX0_isPermutation cX0_isPermutation 4 (some .boolean), .fieldLink RX0 25 "PermGroup" "n" "I", .methodLink RX0 94 yX0_image, .static yX0_image, .code yX0_image cX0_image 2 (some .int), .methodLink RX0 45 yX0_compose, .instanceMethod yX0_compose, .selects RX0 yX0_compose yX0_compose, .code yX0_compose cX0_compose 5 (some .int)] ++ wsX00)
def wsX0_inverse : List Cond := .code yX0_inverse cX0_inverse 2 (some .int) :: ([.methodLink RX0 29 yX0_isPermutation, .instanceMethod yX0_isPermutation, .selects RX0 yX0_isPermutation yX0_isPermutation, .initialized RX0, .code yX0_isPermutation cX0_isPermutation 4 (some .boolean), .fieldLink RX0 25 "PermGroup" "n" "I", .methodLink RX0 94 yX0_image, .static yX0_image, .code yX0_image cX0_image 2 (some .int), .methodLink RX0 49 yX0_invert, .instanceMethod yX0_invert, .selects RX0 yX0_invert yX0_invert, .code yX0_invert cX0_invert 4 (some .int)] ++ wsX00)
def wsX0_fixersOfFirst : List Cond := .code yX0_fixersOfFirst cX0_fixersOfFirst 6 (some .int) :: ([.fieldLink RX0 25 "PermGroup" "n" "I", .methodLink RX0 97 yX0_entry, .instanceMethod yX0_entry, .selects RX0 yX0_entry yX0_entry, .initialized RX0, .code yX0_entry cX0_entry 3 (some .int), .fieldLink RX0 15 "PermGroup" "chains" "[[I", .fieldLink RX0 33 "PermGroup" "count" "I", .methodLink RX0 91 yX0_slotOf, .static yX0_slotOf, .code yX0_slotOf cX0_slotOf 2 (some .int)] ++ wsX00)
def wsX0_order : List Cond := .code yX0_order cX0_order 1 (some .int) :: ([.methodLink RX0 53 yX0_fixersOfFirst, .instanceMethod yX0_fixersOfFirst, .selects RX0 yX0_fixersOfFirst yX0_fixersOfFirst, .initialized RX0, .code yX0_fixersOfFirst cX0_fixersOfFirst 6 (some .int), .fieldLink RX0 25 "PermGroup" "n" "I", .methodLink RX0 97 yX0_entry, .instanceMethod yX0_entry, .selects RX0 yX0_entry yX0_entry, .code yX0_entry cX0_entry 3 (some .int), .fieldLink RX0 15 "PermGroup" "chains" "[[I", .fieldLink RX0 33 "PermGroup" "count" "I", .methodLink RX0 91 yX0_slotOf, .static yX0_slotOf, .code yX0_slotOf cX0_slotOf 2 (some .int)] ++ wsX00)
def wsX0_isElement_r1 : List Cond := [Cond.fieldLink RX0 66 "PermGroup" "identity" "I", Cond.methodLink RX0 100 yX0_residue, Cond.instanceMethod yX0_residue, Cond.selects RX0 yX0_residue yX0_residue, Cond.initialized RX0, Cond.code yX0_residue cX0_residue 6 (some .int), Cond.fieldLink RX0 25 "PermGroup" "n" "I", Cond.methodLink RX0 94 yX0_image, Cond.static yX0_image, Cond.code yX0_image cX0_image 2 (some .int), Cond.methodLink RX0 97 yX0_entry, Cond.instanceMethod yX0_entry, Cond.selects RX0 yX0_entry yX0_entry, Cond.code yX0_entry cX0_entry 3 (some .int), Cond.fieldLink RX0 15 "PermGroup" "chains" "[[I", Cond.fieldLink RX0 33 "PermGroup" "count" "I", Cond.methodLink RX0 91 yX0_slotOf, Cond.static yX0_slotOf, Cond.code yX0_slotOf cX0_slotOf 2 (some .int), Cond.methodLink RX0 49 yX0_invert, Cond.instanceMethod yX0_invert, Cond.selects RX0 yX0_invert yX0_invert, Cond.code yX0_invert cX0_invert 4 (some .int), Cond.methodLink RX0 45 yX0_compose]
def wsX0_isElement_r2 : List Cond := [Cond.instanceMethod yX0_compose, Cond.selects RX0 yX0_compose yX0_compose, Cond.code yX0_compose cX0_compose 5 (some .int)]
def wsX0_isElement : List Cond := .code yX0_isElement cX0_isElement 2 (some .boolean) :: ((wsX0_isElement_r1 ++ wsX0_isElement_r2) ++ wsX00)
def wsX0_contains_r1 : List Cond := [Cond.methodLink RX0 29 yX0_isPermutation, Cond.instanceMethod yX0_isPermutation, Cond.selects RX0 yX0_isPermutation yX0_isPermutation, Cond.initialized RX0, Cond.code yX0_isPermutation cX0_isPermutation 4 (some .boolean), Cond.fieldLink RX0 25 "PermGroup" "n" "I", Cond.methodLink RX0 94 yX0_image, Cond.static yX0_image, Cond.code yX0_image cX0_image 2 (some .int), Cond.methodLink RX0 56 yX0_isElement, Cond.instanceMethod yX0_isElement, Cond.selects RX0 yX0_isElement yX0_isElement, Cond.code yX0_isElement cX0_isElement 2 (some .boolean), Cond.fieldLink RX0 66 "PermGroup" "identity" "I", Cond.methodLink RX0 100 yX0_residue, Cond.instanceMethod yX0_residue, Cond.selects RX0 yX0_residue yX0_residue, Cond.code yX0_residue cX0_residue 6 (some .int), Cond.methodLink RX0 97 yX0_entry, Cond.instanceMethod yX0_entry, Cond.selects RX0 yX0_entry yX0_entry, Cond.code yX0_entry cX0_entry 3 (some .int), Cond.fieldLink RX0 15 "PermGroup" "chains" "[[I", Cond.fieldLink RX0 33 "PermGroup" "count" "I"]
def wsX0_contains_r2 : List Cond := [Cond.methodLink RX0 91 yX0_slotOf, Cond.static yX0_slotOf, Cond.code yX0_slotOf cX0_slotOf 2 (some .int), Cond.methodLink RX0 49 yX0_invert, Cond.instanceMethod yX0_invert, Cond.selects RX0 yX0_invert yX0_invert, Cond.code yX0_invert cX0_invert 4 (some .int), Cond.methodLink RX0 45 yX0_compose, Cond.instanceMethod yX0_compose, Cond.selects RX0 yX0_compose yX0_compose, Cond.code yX0_compose cX0_compose 5 (some .int)]
def wsX0_contains : List Cond := .code yX0_contains cX0_contains 2 (some .boolean) :: ((wsX0_contains_r1 ++ wsX0_contains_r2) ++ wsX00)
def wsX0_inCoset_r1 : List Cond := [Cond.fieldLink RX0 25 "PermGroup" "n" "I", Cond.methodLink RX0 53 yX0_fixersOfFirst, Cond.instanceMethod yX0_fixersOfFirst, Cond.selects RX0 yX0_fixersOfFirst yX0_fixersOfFirst, Cond.initialized RX0, Cond.code yX0_fixersOfFirst cX0_fixersOfFirst 6 (some .int), Cond.methodLink RX0 97 yX0_entry, Cond.instanceMethod yX0_entry, Cond.selects RX0 yX0_entry yX0_entry, Cond.code yX0_entry cX0_entry 3 (some .int), Cond.fieldLink RX0 15 "PermGroup" "chains" "[[I", Cond.fieldLink RX0 33 "PermGroup" "count" "I", Cond.methodLink RX0 91 yX0_slotOf, Cond.static yX0_slotOf, Cond.code yX0_slotOf cX0_slotOf 2 (some .int), Cond.methodLink RX0 49 yX0_invert, Cond.instanceMethod yX0_invert, Cond.selects RX0 yX0_invert yX0_invert, Cond.code yX0_invert cX0_invert 4 (some .int), Cond.methodLink RX0 94 yX0_image, Cond.static yX0_image, Cond.code yX0_image cX0_image 2 (some .int), Cond.methodLink RX0 45 yX0_compose, Cond.instanceMethod yX0_compose]
def wsX0_inCoset_r2 : List Cond := [Cond.selects RX0 yX0_compose yX0_compose, Cond.code yX0_compose cX0_compose 5 (some .int)]
def wsX0_inCoset : List Cond := .code yX0_inCoset cX0_inCoset 10 (some .int) :: ((wsX0_inCoset_r1 ++ wsX0_inCoset_r2) ++ wsX00)
def wsX0_element_r1 : List Cond := [Cond.classLink RX0 59 "java/lang/IndexOutOfBoundsException", Cond.initialized "java/lang/IndexOutOfBoundsException", Cond.fieldLink RX0 66 "PermGroup" "identity" "I", Cond.methodLink RX0 53 yX0_fixersOfFirst, Cond.instanceMethod yX0_fixersOfFirst, Cond.selects RX0 yX0_fixersOfFirst yX0_fixersOfFirst, Cond.initialized RX0, Cond.code yX0_fixersOfFirst cX0_fixersOfFirst 6 (some .int), Cond.fieldLink RX0 25 "PermGroup" "n" "I", Cond.methodLink RX0 97 yX0_entry, Cond.instanceMethod yX0_entry, Cond.selects RX0 yX0_entry yX0_entry, Cond.code yX0_entry cX0_entry 3 (some .int), Cond.fieldLink RX0 15 "PermGroup" "chains" "[[I", Cond.fieldLink RX0 33 "PermGroup" "count" "I", Cond.methodLink RX0 91 yX0_slotOf, Cond.static yX0_slotOf, Cond.code yX0_slotOf cX0_slotOf 2 (some .int), Cond.methodLink RX0 69 yX0_inCoset, Cond.instanceMethod yX0_inCoset, Cond.selects RX0 yX0_inCoset yX0_inCoset, Cond.code yX0_inCoset cX0_inCoset 10 (some .int), Cond.methodLink RX0 49 yX0_invert, Cond.instanceMethod yX0_invert]
def wsX0_element_r2 : List Cond := [Cond.selects RX0 yX0_invert yX0_invert, Cond.code yX0_invert cX0_invert 4 (some .int), Cond.methodLink RX0 94 yX0_image, Cond.static yX0_image, Cond.code yX0_image cX0_image 2 (some .int), Cond.methodLink RX0 45 yX0_compose, Cond.instanceMethod yX0_compose, Cond.selects RX0 yX0_compose yX0_compose, Cond.code yX0_compose cX0_compose 5 (some .int)]
def wsX0_entriesBelow : List Cond := .code yX0_entriesBelow cX0_entriesBelow 6 (some .int) :: ([.fieldLink RX0 25 "PermGroup" "n" "I", .methodLink RX0 97 yX0_entry, .instanceMethod yX0_entry, .selects RX0 yX0_entry yX0_entry, .initialized RX0, .code yX0_entry cX0_entry 3 (some .int), .fieldLink RX0 15 "PermGroup" "chains" "[[I", .fieldLink RX0 33 "PermGroup" "count" "I", .methodLink RX0 91 yX0_slotOf, .static yX0_slotOf, .code yX0_slotOf cX0_slotOf 2 (some .int), .methodLink RX0 94 yX0_image, .static yX0_image, .code yX0_image cX0_image 2 (some .int)] ++ wsX00)
def wsX0_elementsBefore_r1 : List Cond := [Cond.fieldLink RX0 66 "PermGroup" "identity" "I", Cond.fieldLink RX0 25 "PermGroup" "n" "I", Cond.methodLink RX0 94 yX0_image, Cond.static yX0_image, Cond.initialized RX0, Cond.code yX0_image cX0_image 2 (some .int), Cond.methodLink RX0 123 yX0_entriesBelow, Cond.instanceMethod yX0_entriesBelow, Cond.selects RX0 yX0_entriesBelow yX0_entriesBelow, Cond.code yX0_entriesBelow cX0_entriesBelow 6 (some .int), Cond.methodLink RX0 97 yX0_entry, Cond.instanceMethod yX0_entry, Cond.selects RX0 yX0_entry yX0_entry, Cond.code yX0_entry cX0_entry 3 (some .int), Cond.fieldLink RX0 15 "PermGroup" "chains" "[[I", Cond.fieldLink RX0 33 "PermGroup" "count" "I", Cond.methodLink RX0 91 yX0_slotOf, Cond.static yX0_slotOf, Cond.code yX0_slotOf cX0_slotOf 2 (some .int), Cond.methodLink RX0 53 yX0_fixersOfFirst, Cond.instanceMethod yX0_fixersOfFirst, Cond.selects RX0 yX0_fixersOfFirst yX0_fixersOfFirst, Cond.code yX0_fixersOfFirst cX0_fixersOfFirst 6 (some .int), Cond.methodLink RX0 49 yX0_invert]
def wsX0_elementsBefore_r2 : List Cond := [Cond.instanceMethod yX0_invert, Cond.selects RX0 yX0_invert yX0_invert, Cond.code yX0_invert cX0_invert 4 (some .int), Cond.methodLink RX0 45 yX0_compose, Cond.instanceMethod yX0_compose, Cond.selects RX0 yX0_compose yX0_compose, Cond.code yX0_compose cX0_compose 5 (some .int)]
def wsX0_elementsBefore : List Cond := .code yX0_elementsBefore cX0_elementsBefore 6 (some .int) :: ((wsX0_elementsBefore_r1 ++ wsX0_elementsBefore_r2) ++ wsX00)
def wsX0_rank_r1 : List Cond := [Cond.classLink RX0 72 "java/lang/IllegalArgumentException", Cond.initialized "java/lang/IllegalArgumentException", Cond.classLink RX0 77 "java/util/NoSuchElementException", Cond.initialized "java/util/NoSuchElementException", Cond.methodLink RX0 29 yX0_isPermutation, Cond.instanceMethod yX0_isPermutation, Cond.selects RX0 yX0_isPermutation yX0_isPermutation, Cond.initialized RX0, Cond.code yX0_isPermutation cX0_isPermutation 4 (some .boolean), Cond.fieldLink RX0 25 "PermGroup" "n" "I", Cond.methodLink RX0 94 yX0_image, Cond.static yX0_image, Cond.code yX0_image cX0_image 2 (some .int), Cond.methodLink RX0 56 yX0_isElement, Cond.instanceMethod yX0_isElement, Cond.selects RX0 yX0_isElement yX0_isElement, Cond.code yX0_isElement cX0_isElement 2 (some .boolean), Cond.fieldLink RX0 66 "PermGroup" "identity" "I", Cond.methodLink RX0 100 yX0_residue, Cond.instanceMethod yX0_residue, Cond.selects RX0 yX0_residue yX0_residue, Cond.code yX0_residue cX0_residue 6 (some .int), Cond.methodLink RX0 97 yX0_entry, Cond.instanceMethod yX0_entry]
def wsX0_rank_r2 : List Cond := [Cond.selects RX0 yX0_entry yX0_entry, Cond.code yX0_entry cX0_entry 3 (some .int), Cond.fieldLink RX0 15 "PermGroup" "chains" "[[I", Cond.fieldLink RX0 33 "PermGroup" "count" "I", Cond.methodLink RX0 91 yX0_slotOf, Cond.static yX0_slotOf, Cond.code yX0_slotOf cX0_slotOf 2 (some .int), Cond.methodLink RX0 49 yX0_invert, Cond.instanceMethod yX0_invert, Cond.selects RX0 yX0_invert yX0_invert, Cond.code yX0_invert cX0_invert 4 (some .int), Cond.methodLink RX0 45 yX0_compose, Cond.instanceMethod yX0_compose, Cond.selects RX0 yX0_compose yX0_compose, Cond.code yX0_compose cX0_compose 5 (some .int), Cond.methodLink RX0 82 yX0_elementsBefore, Cond.instanceMethod yX0_elementsBefore, Cond.selects RX0 yX0_elementsBefore yX0_elementsBefore, Cond.code yX0_elementsBefore cX0_elementsBefore 6 (some .int), Cond.methodLink RX0 123 yX0_entriesBelow, Cond.instanceMethod yX0_entriesBelow, Cond.selects RX0 yX0_entriesBelow yX0_entriesBelow, Cond.code yX0_entriesBelow cX0_entriesBelow 6 (some .int), Cond.methodLink RX0 53 yX0_fixersOfFirst]
def wsX0_rank_r3 : List Cond := [Cond.instanceMethod yX0_fixersOfFirst, Cond.selects RX0 yX0_fixersOfFirst yX0_fixersOfFirst, Cond.code yX0_fixersOfFirst cX0_fixersOfFirst 6 (some .int)]
def wsX0_least_r1 : List Cond := [Cond.classLink RX0 72 "java/lang/IllegalArgumentException", Cond.initialized "java/lang/IllegalArgumentException", Cond.methodLink RX0 29 yX0_isPermutation, Cond.instanceMethod yX0_isPermutation, Cond.selects RX0 yX0_isPermutation yX0_isPermutation, Cond.initialized RX0, Cond.code yX0_isPermutation cX0_isPermutation 4 (some .boolean), Cond.fieldLink RX0 25 "PermGroup" "n" "I", Cond.methodLink RX0 94 yX0_image, Cond.static yX0_image, Cond.code yX0_image cX0_image 2 (some .int), Cond.methodLink RX0 69 yX0_inCoset, Cond.instanceMethod yX0_inCoset, Cond.selects RX0 yX0_inCoset yX0_inCoset, Cond.code yX0_inCoset cX0_inCoset 10 (some .int), Cond.methodLink RX0 53 yX0_fixersOfFirst, Cond.instanceMethod yX0_fixersOfFirst, Cond.selects RX0 yX0_fixersOfFirst yX0_fixersOfFirst, Cond.code yX0_fixersOfFirst cX0_fixersOfFirst 6 (some .int), Cond.methodLink RX0 97 yX0_entry, Cond.instanceMethod yX0_entry, Cond.selects RX0 yX0_entry yX0_entry, Cond.code yX0_entry cX0_entry 3 (some .int), Cond.fieldLink RX0 15 "PermGroup" "chains" "[[I"]
def wsX0_least_r2 : List Cond := [Cond.fieldLink RX0 33 "PermGroup" "count" "I", Cond.methodLink RX0 91 yX0_slotOf, Cond.static yX0_slotOf, Cond.code yX0_slotOf cX0_slotOf 2 (some .int), Cond.methodLink RX0 49 yX0_invert, Cond.instanceMethod yX0_invert, Cond.selects RX0 yX0_invert yX0_invert, Cond.code yX0_invert cX0_invert 4 (some .int), Cond.methodLink RX0 45 yX0_compose, Cond.instanceMethod yX0_compose, Cond.selects RX0 yX0_compose yX0_compose, Cond.code yX0_compose cX0_compose 5 (some .int)]
def wsX0_imagesOf : List Cond := .code yX0_imagesOf cX0_imagesOf 5 (some .int) :: ([.fieldLink RX0 25 "PermGroup" "n" "I", .methodLink RX0 94 yX0_image, .static yX0_image, .initialized RX0, .code yX0_image cX0_image 2 (some .int)] ++ wsX00)
def wsX0_orbit : List Cond := .code yX0_orbit cX0_orbit 5 (some .int) :: ([.fieldLink RX0 25 "PermGroup" "n" "I", .fieldLink RX0 33 "PermGroup" "count" "I", .fieldLink RX0 9 "PermGroup" "added" "[I", .methodLink RX0 85 yX0_imagesOf, .instanceMethod yX0_imagesOf, .selects RX0 yX0_imagesOf yX0_imagesOf, .initialized RX0, .code yX0_imagesOf cX0_imagesOf 5 (some .int), .methodLink RX0 94 yX0_image, .static yX0_image, .code yX0_image cX0_image 2 (some .int)] ++ wsX00)
def wsX0_fixing : List Cond := .code yX0_fixing cX0_fixing 2 (some .int) :: ([.fieldLink RX0 25 "PermGroup" "n" "I", .methodLink RX0 53 yX0_fixersOfFirst, .instanceMethod yX0_fixersOfFirst, .selects RX0 yX0_fixersOfFirst yX0_fixersOfFirst, .initialized RX0, .code yX0_fixersOfFirst cX0_fixersOfFirst 6 (some .int), .methodLink RX0 97 yX0_entry, .instanceMethod yX0_entry, .selects RX0 yX0_entry yX0_entry, .code yX0_entry cX0_entry 3 (some .int), .fieldLink RX0 15 "PermGroup" "chains" "[[I", .fieldLink RX0 33 "PermGroup" "count" "I", .methodLink RX0 91 yX0_slotOf, .static yX0_slotOf, .code yX0_slotOf cX0_slotOf 2 (some .int)] ++ wsX00)
def wsX0_isOdd : List Cond := .code yX0_isOdd cX0_isOdd 5 (some .boolean) :: ([.fieldLink RX0 25 "PermGroup" "n" "I", .methodLink RX0 94 yX0_image, .static yX0_image, .initialized RX0, .code yX0_image cX0_image 2 (some .int)] ++ wsX00)
def wsX0_even : List Cond := .code yX0_even cX0_even 3 (some .int) :: ([.fieldLink RX0 33 "PermGroup" "count" "I", .fieldLink RX0 9 "PermGroup" "added" "[I", .methodLink RX0 53 yX0_fixersOfFirst, .instanceMethod yX0_fixersOfFirst, .selects RX0 yX0_fixersOfFirst yX0_fixersOfFirst, .initialized RX0, .code yX0_fixersOfFirst cX0_fixersOfFirst 6 (some .int), .fieldLink RX0 25 "PermGroup" "n" "I", .methodLink RX0 97 yX0_entry, .instanceMethod yX0_entry, .selects RX0 yX0_entry yX0_entry, .code yX0_entry cX0_entry 3 (some .int), .fieldLink RX0 15 "PermGroup" "chains" "[[I", .methodLink RX0 91 yX0_slotOf, .static yX0_slotOf, .code yX0_slotOf cX0_slotOf 2 (some .int), .methodLink RX0 88 yX0_isOdd, .instanceMethod yX0_isOdd, .selects RX0 yX0_isOdd yX0_isOdd, .code yX0_isOdd cX0_isOdd 5 (some .boolean), .methodLink RX0 94 yX0_image, .static yX0_image, .code yX0_image cX0_image 2 (some .int)] ++ wsX00)
def wsX1_init : List Cond := .code yX1_init cX1_init 1 none :: ([.methodLink RX1 1 objectInit, .instanceMethod objectInit, .code objectInit ⟨#[0xb1]⟩ 1 none, .arrayClass .int, .fieldLink RX1 7 "PermGroupModel" "factorials" "[I", .fieldLink RX1 13 "PermGroupModel" "gens" "[I", .arrayClass .boolean, .fieldLink RX1 16 "PermGroupModel" "in" "[Z", .fieldLink RX1 20 "PermGroupModel" "waiting" "[I", .fieldLink RX1 23 "PermGroupModel" "n" "I"] ++ wsX10)
def wsX1_image : List Cond := .code yX1_image cX1_image 2 (some .int) :: ([])
def wsX1_isPermutation : List Cond := .code yX1_isPermutation cX1_isPermutation 4 (some .boolean) :: ([.fieldLink RX1 23 "PermGroupModel" "n" "I", .methodLink RX1 27 yX1_image, .static yX1_image, .initialized RX1, .code yX1_image cX1_image 2 (some .int)] ++ wsX10)
def wsX1_times : List Cond := .code yX1_times cX1_times 5 (some .int) :: ([.fieldLink RX1 23 "PermGroupModel" "n" "I", .methodLink RX1 27 yX1_image, .static yX1_image, .initialized RX1, .code yX1_image cX1_image 2 (some .int)] ++ wsX10)
def wsX1_back : List Cond := .code yX1_back cX1_back 4 (some .int) :: ([.fieldLink RX1 23 "PermGroupModel" "n" "I", .methodLink RX1 27 yX1_image, .static yX1_image, .initialized RX1, .code yX1_image cX1_image 2 (some .int)] ++ wsX10)
def wsX1_free : List Cond := .code yX1_free cX1_free 8 (some .int) :: ([.methodLink RX1 27 yX1_image, .static yX1_image, .initialized RX1, .code yX1_image cX1_image 2 (some .int)])
def wsX1_numberOf : List Cond := .code yX1_numberOf cX1_numberOf 4 (some .int) :: ([.fieldLink RX1 23 "PermGroupModel" "n" "I", .fieldLink RX1 7 "PermGroupModel" "factorials" "[I", .methodLink RX1 27 yX1_image, .static yX1_image, .initialized RX1, .code yX1_image cX1_image 2 (some .int), .methodLink RX1 31 yX1_free, .instanceMethod yX1_free, .selects RX1 yX1_free yX1_free, .code yX1_free cX1_free 8 (some .int)] ++ wsX10)
def wsX1_isUsed : List Cond := .code yX1_isUsed cX1_isUsed 4 (some .boolean) :: ([.methodLink RX1 27 yX1_image, .static yX1_image, .initialized RX1, .code yX1_image cX1_image 2 (some .int)])
def wsX1_permutation : List Cond := .code yX1_permutation cX1_permutation 7 (some .int) :: ([.fieldLink RX1 23 "PermGroupModel" "n" "I", .fieldLink RX1 7 "PermGroupModel" "factorials" "[I", .methodLink RX1 31 yX1_free, .instanceMethod yX1_free, .selects RX1 yX1_free yX1_free, .initialized RX1, .code yX1_free cX1_free 8 (some .int), .methodLink RX1 27 yX1_image, .static yX1_image, .code yX1_image cX1_image 2 (some .int), .methodLink RX1 35 yX1_isUsed, .static yX1_isUsed, .code yX1_isUsed cX1_isUsed 4 (some .boolean)] ++ wsX10)
def wsX1_all : List Cond := .code yX1_all cX1_all 1 (some .int) :: ([.fieldLink RX1 7 "PermGroupModel" "factorials" "[I", .fieldLink RX1 23 "PermGroupModel" "n" "I"] ++ wsX10)
def wsX1_fill_r1 : List Cond := [Cond.fieldLink RX1 16 "PermGroupModel" "in" "[Z", Cond.fieldLink RX1 20 "PermGroupModel" "waiting" "[I", Cond.fieldLink RX1 43 "PermGroupModel" "count" "I", Cond.fieldLink RX1 13 "PermGroupModel" "gens" "[I", Cond.methodLink RX1 39 yX1_permutation, Cond.instanceMethod yX1_permutation, Cond.selects RX1 yX1_permutation yX1_permutation, Cond.initialized RX1, Cond.code yX1_permutation cX1_permutation 7 (some .int), Cond.fieldLink RX1 23 "PermGroupModel" "n" "I", Cond.fieldLink RX1 7 "PermGroupModel" "factorials" "[I", Cond.methodLink RX1 31 yX1_free, Cond.instanceMethod yX1_free, Cond.selects RX1 yX1_free yX1_free, Cond.code yX1_free cX1_free 8 (some .int), Cond.methodLink RX1 27 yX1_image, Cond.static yX1_image, Cond.code yX1_image cX1_image 2 (some .int), Cond.methodLink RX1 35 yX1_isUsed, Cond.static yX1_isUsed, Cond.code yX1_isUsed cX1_isUsed 4 (some .boolean), Cond.methodLink RX1 46 yX1_times, Cond.instanceMethod yX1_times, Cond.selects RX1 yX1_times yX1_times]
def wsX1_fill_r2 : List Cond := [Cond.code yX1_times cX1_times 5 (some .int), Cond.methodLink RX1 49 yX1_numberOf, Cond.instanceMethod yX1_numberOf, Cond.selects RX1 yX1_numberOf yX1_numberOf, Cond.code yX1_numberOf cX1_numberOf 4 (some .int)]
def wsX1_fill : List Cond := .code yX1_fill cX1_fill 7 none :: ((wsX1_fill_r1 ++ wsX1_fill_r2) ++ wsX10)
def wsX1_points : List Cond := .code yX1_points cX1_points 2 (some .boolean) :: ([.fieldLink RX1 23 "PermGroupModel" "n" "I", .fieldLink RX1 43 "PermGroupModel" "count" "I"] ++ wsX10)
def wsX1_degree : List Cond := .code yX1_degree cX1_degree 1 (some .int) :: ([.fieldLink RX1 23 "PermGroupModel" "n" "I"] ++ wsX10)
def wsX1_add : List Cond := .code yX1_add cX1_add 2 (some .int) :: ([.fieldLink RX1 43 "PermGroupModel" "count" "I", .fieldLink RX1 13 "PermGroupModel" "gens" "[I", .methodLink RX1 52 yX1_isPermutation, .instanceMethod yX1_isPermutation, .selects RX1 yX1_isPermutation yX1_isPermutation, .initialized RX1, .code yX1_isPermutation cX1_isPermutation 4 (some .boolean), .fieldLink RX1 23 "PermGroupModel" "n" "I", .methodLink RX1 27 yX1_image, .static yX1_image, .code yX1_image cX1_image 2 (some .int)] ++ wsX10)
def wsX1_drop : List Cond := .code yX1_drop cX1_drop 1 (some .boolean) :: ([.fieldLink RX1 43 "PermGroupModel" "count" "I"] ++ wsX10)
def wsX1_generators : List Cond := .code yX1_generators cX1_generators 1 (some .int) :: ([.fieldLink RX1 43 "PermGroupModel" "count" "I"] ++ wsX10)
def wsX1_generator : List Cond := .code yX1_generator cX1_generator 2 (some .int) :: ([.fieldLink RX1 43 "PermGroupModel" "count" "I", .fieldLink RX1 13 "PermGroupModel" "gens" "[I"] ++ wsX10)
def wsX1_product : List Cond := .code yX1_product cX1_product 3 (some .int) :: ([.methodLink RX1 52 yX1_isPermutation, .instanceMethod yX1_isPermutation, .selects RX1 yX1_isPermutation yX1_isPermutation, .initialized RX1, .code yX1_isPermutation cX1_isPermutation 4 (some .boolean), .fieldLink RX1 23 "PermGroupModel" "n" "I", .methodLink RX1 27 yX1_image, .static yX1_image, .code yX1_image cX1_image 2 (some .int), .methodLink RX1 46 yX1_times, .instanceMethod yX1_times, .selects RX1 yX1_times yX1_times, .code yX1_times cX1_times 5 (some .int)] ++ wsX10)
def wsX1_inverse : List Cond := .code yX1_inverse cX1_inverse 2 (some .int) :: ([.methodLink RX1 52 yX1_isPermutation, .instanceMethod yX1_isPermutation, .selects RX1 yX1_isPermutation yX1_isPermutation, .initialized RX1, .code yX1_isPermutation cX1_isPermutation 4 (some .boolean), .fieldLink RX1 23 "PermGroupModel" "n" "I", .methodLink RX1 27 yX1_image, .static yX1_image, .code yX1_image cX1_image 2 (some .int), .methodLink RX1 56 yX1_back, .instanceMethod yX1_back, .selects RX1 yX1_back yX1_back, .code yX1_back cX1_back 4 (some .int)] ++ wsX10)
def wsX1_below : List Cond := .code yX1_below cX1_below 4 (some .int) :: ([.fieldLink RX1 16 "PermGroupModel" "in" "[Z"] ++ wsX10)
def wsX1_order_r1 : List Cond := [Cond.methodLink RX1 59 yX1_fill, Cond.instanceMethod yX1_fill, Cond.selects RX1 yX1_fill yX1_fill, Cond.initialized RX1, Cond.code yX1_fill cX1_fill 7 none, Cond.fieldLink RX1 16 "PermGroupModel" "in" "[Z", Cond.fieldLink RX1 20 "PermGroupModel" "waiting" "[I", Cond.fieldLink RX1 43 "PermGroupModel" "count" "I", Cond.fieldLink RX1 13 "PermGroupModel" "gens" "[I", Cond.methodLink RX1 39 yX1_permutation, Cond.instanceMethod yX1_permutation, Cond.selects RX1 yX1_permutation yX1_permutation, Cond.code yX1_permutation cX1_permutation 7 (some .int), Cond.fieldLink RX1 23 "PermGroupModel" "n" "I", Cond.fieldLink RX1 7 "PermGroupModel" "factorials" "[I", Cond.methodLink RX1 31 yX1_free, Cond.instanceMethod yX1_free, Cond.selects RX1 yX1_free yX1_free, Cond.code yX1_free cX1_free 8 (some .int), Cond.methodLink RX1 27 yX1_image, Cond.static yX1_image, Cond.code yX1_image cX1_image 2 (some .int), Cond.methodLink RX1 35 yX1_isUsed, Cond.static yX1_isUsed]
def wsX1_order_r2 : List Cond := [Cond.code yX1_isUsed cX1_isUsed 4 (some .boolean), Cond.methodLink RX1 46 yX1_times, Cond.instanceMethod yX1_times, Cond.selects RX1 yX1_times yX1_times, Cond.code yX1_times cX1_times 5 (some .int), Cond.methodLink RX1 49 yX1_numberOf, Cond.instanceMethod yX1_numberOf, Cond.selects RX1 yX1_numberOf yX1_numberOf, Cond.code yX1_numberOf cX1_numberOf 4 (some .int), Cond.methodLink RX1 62 yX1_all, Cond.instanceMethod yX1_all, Cond.selects RX1 yX1_all yX1_all, Cond.code yX1_all cX1_all 1 (some .int), Cond.methodLink RX1 66 yX1_below, Cond.instanceMethod yX1_below, Cond.selects RX1 yX1_below yX1_below, Cond.code yX1_below cX1_below 4 (some .int)]
def wsX1_order : List Cond := .code yX1_order cX1_order 1 (some .int) :: ((wsX1_order_r1 ++ wsX1_order_r2) ++ wsX10)
def wsX1_contains_r1 : List Cond := [Cond.fieldLink RX1 16 "PermGroupModel" "in" "[Z", Cond.methodLink RX1 52 yX1_isPermutation, Cond.instanceMethod yX1_isPermutation, Cond.selects RX1 yX1_isPermutation yX1_isPermutation, Cond.initialized RX1, Cond.code yX1_isPermutation cX1_isPermutation 4 (some .boolean), Cond.fieldLink RX1 23 "PermGroupModel" "n" "I", Cond.methodLink RX1 27 yX1_image, Cond.static yX1_image, Cond.code yX1_image cX1_image 2 (some .int), Cond.methodLink RX1 59 yX1_fill, Cond.instanceMethod yX1_fill, Cond.selects RX1 yX1_fill yX1_fill, Cond.code yX1_fill cX1_fill 7 none, Cond.fieldLink RX1 20 "PermGroupModel" "waiting" "[I", Cond.fieldLink RX1 43 "PermGroupModel" "count" "I", Cond.fieldLink RX1 13 "PermGroupModel" "gens" "[I", Cond.methodLink RX1 39 yX1_permutation, Cond.instanceMethod yX1_permutation, Cond.selects RX1 yX1_permutation yX1_permutation, Cond.code yX1_permutation cX1_permutation 7 (some .int), Cond.fieldLink RX1 7 "PermGroupModel" "factorials" "[I", Cond.methodLink RX1 31 yX1_free, Cond.instanceMethod yX1_free]
def wsX1_contains_r2 : List Cond := [Cond.selects RX1 yX1_free yX1_free, Cond.code yX1_free cX1_free 8 (some .int), Cond.methodLink RX1 35 yX1_isUsed, Cond.static yX1_isUsed, Cond.code yX1_isUsed cX1_isUsed 4 (some .boolean), Cond.methodLink RX1 46 yX1_times, Cond.instanceMethod yX1_times, Cond.selects RX1 yX1_times yX1_times, Cond.code yX1_times cX1_times 5 (some .int), Cond.methodLink RX1 49 yX1_numberOf, Cond.instanceMethod yX1_numberOf, Cond.selects RX1 yX1_numberOf yX1_numberOf, Cond.code yX1_numberOf cX1_numberOf 4 (some .int)]
def wsX1_contains : List Cond := .code yX1_contains cX1_contains 2 (some .boolean) :: ((wsX1_contains_r1 ++ wsX1_contains_r2) ++ wsX10)
def wsX1_element_r1 : List Cond := [Cond.fieldLink RX1 69 "PermGroupModel" "thrown" "I", Cond.fieldLink RX1 16 "PermGroupModel" "in" "[Z", Cond.methodLink RX1 59 yX1_fill, Cond.instanceMethod yX1_fill, Cond.selects RX1 yX1_fill yX1_fill, Cond.initialized RX1, Cond.code yX1_fill cX1_fill 7 none, Cond.fieldLink RX1 20 "PermGroupModel" "waiting" "[I", Cond.fieldLink RX1 43 "PermGroupModel" "count" "I", Cond.fieldLink RX1 13 "PermGroupModel" "gens" "[I", Cond.methodLink RX1 39 yX1_permutation, Cond.instanceMethod yX1_permutation, Cond.selects RX1 yX1_permutation yX1_permutation, Cond.code yX1_permutation cX1_permutation 7 (some .int), Cond.fieldLink RX1 23 "PermGroupModel" "n" "I", Cond.fieldLink RX1 7 "PermGroupModel" "factorials" "[I", Cond.methodLink RX1 31 yX1_free, Cond.instanceMethod yX1_free, Cond.selects RX1 yX1_free yX1_free, Cond.code yX1_free cX1_free 8 (some .int), Cond.methodLink RX1 27 yX1_image, Cond.static yX1_image, Cond.code yX1_image cX1_image 2 (some .int), Cond.methodLink RX1 35 yX1_isUsed]
def wsX1_element_r2 : List Cond := [Cond.static yX1_isUsed, Cond.code yX1_isUsed cX1_isUsed 4 (some .boolean), Cond.methodLink RX1 46 yX1_times, Cond.instanceMethod yX1_times, Cond.selects RX1 yX1_times yX1_times, Cond.code yX1_times cX1_times 5 (some .int), Cond.methodLink RX1 49 yX1_numberOf, Cond.instanceMethod yX1_numberOf, Cond.selects RX1 yX1_numberOf yX1_numberOf, Cond.code yX1_numberOf cX1_numberOf 4 (some .int), Cond.methodLink RX1 62 yX1_all, Cond.instanceMethod yX1_all, Cond.selects RX1 yX1_all yX1_all, Cond.code yX1_all cX1_all 1 (some .int), Cond.methodLink RX1 66 yX1_below, Cond.instanceMethod yX1_below, Cond.selects RX1 yX1_below yX1_below, Cond.code yX1_below cX1_below 4 (some .int)]
def wsX1_element : List Cond := .code yX1_element cX1_element 4 (some .int) :: ((wsX1_element_r1 ++ wsX1_element_r2) ++ wsX10)
def wsX1_rank_r1 : List Cond := [Cond.fieldLink RX1 69 "PermGroupModel" "thrown" "I", Cond.fieldLink RX1 16 "PermGroupModel" "in" "[Z", Cond.methodLink RX1 52 yX1_isPermutation, Cond.instanceMethod yX1_isPermutation, Cond.selects RX1 yX1_isPermutation yX1_isPermutation, Cond.initialized RX1, Cond.code yX1_isPermutation cX1_isPermutation 4 (some .boolean), Cond.fieldLink RX1 23 "PermGroupModel" "n" "I", Cond.methodLink RX1 27 yX1_image, Cond.static yX1_image, Cond.code yX1_image cX1_image 2 (some .int), Cond.methodLink RX1 59 yX1_fill, Cond.instanceMethod yX1_fill, Cond.selects RX1 yX1_fill yX1_fill, Cond.code yX1_fill cX1_fill 7 none, Cond.fieldLink RX1 20 "PermGroupModel" "waiting" "[I", Cond.fieldLink RX1 43 "PermGroupModel" "count" "I", Cond.fieldLink RX1 13 "PermGroupModel" "gens" "[I", Cond.methodLink RX1 39 yX1_permutation, Cond.instanceMethod yX1_permutation, Cond.selects RX1 yX1_permutation yX1_permutation, Cond.code yX1_permutation cX1_permutation 7 (some .int), Cond.fieldLink RX1 7 "PermGroupModel" "factorials" "[I", Cond.methodLink RX1 31 yX1_free]
def wsX1_rank_r2 : List Cond := [Cond.instanceMethod yX1_free, Cond.selects RX1 yX1_free yX1_free, Cond.code yX1_free cX1_free 8 (some .int), Cond.methodLink RX1 35 yX1_isUsed, Cond.static yX1_isUsed, Cond.code yX1_isUsed cX1_isUsed 4 (some .boolean), Cond.methodLink RX1 46 yX1_times, Cond.instanceMethod yX1_times, Cond.selects RX1 yX1_times yX1_times, Cond.code yX1_times cX1_times 5 (some .int), Cond.methodLink RX1 49 yX1_numberOf, Cond.instanceMethod yX1_numberOf, Cond.selects RX1 yX1_numberOf yX1_numberOf, Cond.code yX1_numberOf cX1_numberOf 4 (some .int), Cond.methodLink RX1 66 yX1_below, Cond.instanceMethod yX1_below, Cond.selects RX1 yX1_below yX1_below, Cond.code yX1_below cX1_below 4 (some .int)]
def wsX1_rank : List Cond := .code yX1_rank cX1_rank 3 (some .int) :: ((wsX1_rank_r1 ++ wsX1_rank_r2) ++ wsX10)
def wsX1_least_r1 : List Cond := [Cond.fieldLink RX1 69 "PermGroupModel" "thrown" "I", Cond.fieldLink RX1 16 "PermGroupModel" "in" "[Z", Cond.methodLink RX1 52 yX1_isPermutation, Cond.instanceMethod yX1_isPermutation, Cond.selects RX1 yX1_isPermutation yX1_isPermutation, Cond.initialized RX1, Cond.code yX1_isPermutation cX1_isPermutation 4 (some .boolean), Cond.fieldLink RX1 23 "PermGroupModel" "n" "I", Cond.methodLink RX1 27 yX1_image, Cond.static yX1_image, Cond.code yX1_image cX1_image 2 (some .int), Cond.methodLink RX1 59 yX1_fill, Cond.instanceMethod yX1_fill, Cond.selects RX1 yX1_fill yX1_fill, Cond.code yX1_fill cX1_fill 7 none, Cond.fieldLink RX1 20 "PermGroupModel" "waiting" "[I", Cond.fieldLink RX1 43 "PermGroupModel" "count" "I", Cond.fieldLink RX1 13 "PermGroupModel" "gens" "[I", Cond.methodLink RX1 39 yX1_permutation, Cond.instanceMethod yX1_permutation, Cond.selects RX1 yX1_permutation yX1_permutation, Cond.code yX1_permutation cX1_permutation 7 (some .int), Cond.fieldLink RX1 7 "PermGroupModel" "factorials" "[I", Cond.methodLink RX1 31 yX1_free]
def wsX1_least_r2 : List Cond := [Cond.instanceMethod yX1_free, Cond.selects RX1 yX1_free yX1_free, Cond.code yX1_free cX1_free 8 (some .int), Cond.methodLink RX1 35 yX1_isUsed, Cond.static yX1_isUsed, Cond.code yX1_isUsed cX1_isUsed 4 (some .boolean), Cond.methodLink RX1 46 yX1_times, Cond.instanceMethod yX1_times, Cond.selects RX1 yX1_times yX1_times, Cond.code yX1_times cX1_times 5 (some .int), Cond.methodLink RX1 49 yX1_numberOf, Cond.instanceMethod yX1_numberOf, Cond.selects RX1 yX1_numberOf yX1_numberOf, Cond.code yX1_numberOf cX1_numberOf 4 (some .int), Cond.methodLink RX1 62 yX1_all, Cond.instanceMethod yX1_all, Cond.selects RX1 yX1_all yX1_all, Cond.code yX1_all cX1_all 1 (some .int)]
def wsX1_least : List Cond := .code yX1_least cX1_least 6 (some .int) :: ((wsX1_least_r1 ++ wsX1_least_r2) ++ wsX10)
def wsX1_orbit_r1 : List Cond := [Cond.fieldLink RX1 23 "PermGroupModel" "n" "I", Cond.fieldLink RX1 16 "PermGroupModel" "in" "[Z", Cond.methodLink RX1 59 yX1_fill, Cond.instanceMethod yX1_fill, Cond.selects RX1 yX1_fill yX1_fill, Cond.initialized RX1, Cond.code yX1_fill cX1_fill 7 none, Cond.fieldLink RX1 20 "PermGroupModel" "waiting" "[I", Cond.fieldLink RX1 43 "PermGroupModel" "count" "I", Cond.fieldLink RX1 13 "PermGroupModel" "gens" "[I", Cond.methodLink RX1 39 yX1_permutation, Cond.instanceMethod yX1_permutation, Cond.selects RX1 yX1_permutation yX1_permutation, Cond.code yX1_permutation cX1_permutation 7 (some .int), Cond.fieldLink RX1 7 "PermGroupModel" "factorials" "[I", Cond.methodLink RX1 31 yX1_free, Cond.instanceMethod yX1_free, Cond.selects RX1 yX1_free yX1_free, Cond.code yX1_free cX1_free 8 (some .int), Cond.methodLink RX1 27 yX1_image, Cond.static yX1_image, Cond.code yX1_image cX1_image 2 (some .int), Cond.methodLink RX1 35 yX1_isUsed, Cond.static yX1_isUsed]
def wsX1_orbit_r2 : List Cond := [Cond.code yX1_isUsed cX1_isUsed 4 (some .boolean), Cond.methodLink RX1 46 yX1_times, Cond.instanceMethod yX1_times, Cond.selects RX1 yX1_times yX1_times, Cond.code yX1_times cX1_times 5 (some .int), Cond.methodLink RX1 49 yX1_numberOf, Cond.instanceMethod yX1_numberOf, Cond.selects RX1 yX1_numberOf yX1_numberOf, Cond.code yX1_numberOf cX1_numberOf 4 (some .int), Cond.methodLink RX1 62 yX1_all, Cond.instanceMethod yX1_all, Cond.selects RX1 yX1_all yX1_all, Cond.code yX1_all cX1_all 1 (some .int)]
def wsX1_orbit : List Cond := .code yX1_orbit cX1_orbit 5 (some .int) :: ((wsX1_orbit_r1 ++ wsX1_orbit_r2) ++ wsX10)
def wsX1_fixing_r1 : List Cond := [Cond.fieldLink RX1 23 "PermGroupModel" "n" "I", Cond.fieldLink RX1 16 "PermGroupModel" "in" "[Z", Cond.methodLink RX1 59 yX1_fill, Cond.instanceMethod yX1_fill, Cond.selects RX1 yX1_fill yX1_fill, Cond.initialized RX1, Cond.code yX1_fill cX1_fill 7 none, Cond.fieldLink RX1 20 "PermGroupModel" "waiting" "[I", Cond.fieldLink RX1 43 "PermGroupModel" "count" "I", Cond.fieldLink RX1 13 "PermGroupModel" "gens" "[I", Cond.methodLink RX1 39 yX1_permutation, Cond.instanceMethod yX1_permutation, Cond.selects RX1 yX1_permutation yX1_permutation, Cond.code yX1_permutation cX1_permutation 7 (some .int), Cond.fieldLink RX1 7 "PermGroupModel" "factorials" "[I", Cond.methodLink RX1 31 yX1_free, Cond.instanceMethod yX1_free, Cond.selects RX1 yX1_free yX1_free, Cond.code yX1_free cX1_free 8 (some .int), Cond.methodLink RX1 27 yX1_image, Cond.static yX1_image, Cond.code yX1_image cX1_image 2 (some .int), Cond.methodLink RX1 35 yX1_isUsed, Cond.static yX1_isUsed]
def wsX1_fixing_r2 : List Cond := [Cond.code yX1_isUsed cX1_isUsed 4 (some .boolean), Cond.methodLink RX1 46 yX1_times, Cond.instanceMethod yX1_times, Cond.selects RX1 yX1_times yX1_times, Cond.code yX1_times cX1_times 5 (some .int), Cond.methodLink RX1 49 yX1_numberOf, Cond.instanceMethod yX1_numberOf, Cond.selects RX1 yX1_numberOf yX1_numberOf, Cond.code yX1_numberOf cX1_numberOf 4 (some .int), Cond.methodLink RX1 62 yX1_all, Cond.instanceMethod yX1_all, Cond.selects RX1 yX1_all yX1_all, Cond.code yX1_all cX1_all 1 (some .int)]
def wsX1_fixing : List Cond := .code yX1_fixing cX1_fixing 7 (some .int) :: ((wsX1_fixing_r1 ++ wsX1_fixing_r2) ++ wsX10)
def wsX1_even_r1 : List Cond := [Cond.fieldLink RX1 16 "PermGroupModel" "in" "[Z", Cond.fieldLink RX1 23 "PermGroupModel" "n" "I", Cond.methodLink RX1 59 yX1_fill, Cond.instanceMethod yX1_fill, Cond.selects RX1 yX1_fill yX1_fill, Cond.initialized RX1, Cond.code yX1_fill cX1_fill 7 none, Cond.fieldLink RX1 20 "PermGroupModel" "waiting" "[I", Cond.fieldLink RX1 43 "PermGroupModel" "count" "I", Cond.fieldLink RX1 13 "PermGroupModel" "gens" "[I", Cond.methodLink RX1 39 yX1_permutation, Cond.instanceMethod yX1_permutation, Cond.selects RX1 yX1_permutation yX1_permutation, Cond.code yX1_permutation cX1_permutation 7 (some .int), Cond.fieldLink RX1 7 "PermGroupModel" "factorials" "[I", Cond.methodLink RX1 31 yX1_free, Cond.instanceMethod yX1_free, Cond.selects RX1 yX1_free yX1_free, Cond.code yX1_free cX1_free 8 (some .int), Cond.methodLink RX1 27 yX1_image, Cond.static yX1_image, Cond.code yX1_image cX1_image 2 (some .int), Cond.methodLink RX1 35 yX1_isUsed, Cond.static yX1_isUsed]
def wsX1_even_r2 : List Cond := [Cond.code yX1_isUsed cX1_isUsed 4 (some .boolean), Cond.methodLink RX1 46 yX1_times, Cond.instanceMethod yX1_times, Cond.selects RX1 yX1_times yX1_times, Cond.code yX1_times cX1_times 5 (some .int), Cond.methodLink RX1 49 yX1_numberOf, Cond.instanceMethod yX1_numberOf, Cond.selects RX1 yX1_numberOf yX1_numberOf, Cond.code yX1_numberOf cX1_numberOf 4 (some .int), Cond.methodLink RX1 62 yX1_all, Cond.instanceMethod yX1_all, Cond.selects RX1 yX1_all yX1_all, Cond.code yX1_all cX1_all 1 (some .int)]
def wsX1_even : List Cond := .code yX1_even cX1_even 7 (some .int) :: ((wsX1_even_r1 ++ wsX1_even_r2) ++ wsX10)
def wsX1_thrown : List Cond := .code yX1_thrown cX1_thrown 1 (some .int) :: ([.fieldLink RX1 69 "PermGroupModel" "thrown" "I"] ++ wsX10)
abbrev vwCl : List vw_C := [(RX0, TX0, 7), (RX1, TX1, 7)]
end
section
set_option maxRecDepth 20000 in
theorem ggX0_init_X0_begin : GoodIn wsX0_init wsX0_begin := goodIn_r _ [13, 14, 15, 16, 7, 17, 18, 12, 19, 20, 21, 22, 23, 24, 25, 26] (by decide +kernel) (by decide +kernel)
set_option maxRecDepth 20000 in
theorem gX0_init_X0_begin : GoodIn wsX0_init (wsV RX0 21 RX0 yX0_begin wsX0_begin) := goodIn_app (goodIn_of _ (by decide +kernel)) ggX0_init_X0_begin
theorem dX0_init_0 : decode cX0_init 0 = .ok (.aload_n 0, 1) := by decide +kernel
theorem dX0_init_1 : decode cX0_init 1 = .ok (.invokespecial 3, 3) := by decide +kernel
theorem dX0_init_4 : decode cX0_init 4 = .ok (.aload_n 0, 1) := by decide +kernel
theorem dX0_init_5 : decode cX0_init 5 = .ok (.bipush 12, 2) := by decide +kernel
theorem dX0_init_7 : decode cX0_init 7 = .ok (.newarray .int, 2) := by decide +kernel
theorem dX0_init_9 : decode cX0_init 9 = .ok (.putfield 9, 3) := by decide +kernel
theorem dX0_init_12 : decode cX0_init 12 = .ok (.aload_n 0, 1) := by decide +kernel
theorem dX0_init_13 : decode cX0_init 13 = .ok (.bipush 13, 2) := by decide +kernel
theorem dX0_init_15 : decode cX0_init 15 = .ok (.bipush 56, 2) := by decide +kernel
theorem dX0_init_17 : decode cX0_init 17 = .ok (.multianewarray 13 2, 4) := by decide +kernel
theorem dX0_init_21 : decode cX0_init 21 = .ok (.putfield 15, 3) := by decide +kernel
theorem dX0_init_24 : decode cX0_init 24 = .ok (.aload_n 0, 1) := by decide +kernel
theorem dX0_init_25 : decode cX0_init 25 = .ok (.bipush 21, 2) := by decide +kernel
theorem dX0_init_27 : decode cX0_init 27 = .ok (.newarray .int, 2) := by decide +kernel
theorem dX0_init_29 : decode cX0_init 29 = .ok (.putfield 18, 3) := by decide +kernel
theorem dX0_init_32 : decode cX0_init 32 = .ok (.aload_n 0, 1) := by decide +kernel
theorem dX0_init_33 : decode cX0_init 33 = .ok (.iconst 5, 1) := by decide +kernel
theorem dX0_init_34 : decode cX0_init 34 = .ok (.invokevirtual 21, 3) := by decide +kernel
theorem dX0_init_37 : decode cX0_init 37 = .ok (.return_, 1) := by decide +kernel
set_option maxRecDepth 20000 in
theorem ggX0_points_X0_begin : GoodIn wsX0_points wsX0_begin := goodIn_r _ [5, 6, 7, 8, 9, 10, 11, 4, 12, 13, 14, 15, 16, 17, 18, 19] (by decide +kernel) (by decide +kernel)
set_option maxRecDepth 20000 in
theorem gX0_points_X0_begin : GoodIn wsX0_points (wsV RX0 21 RX0 yX0_begin wsX0_begin) := goodIn_app (goodIn_of _ (by decide +kernel)) ggX0_points_X0_begin
theorem dX0_points_0 : decode cX0_points 0 = .ok (.iload_n 1, 1) := by decide +kernel
theorem dX0_points_1 : decode cX0_points 1 = .ok (.iconst 1, 1) := by decide +kernel
theorem dX0_points_2 : decode cX0_points 2 = .ok (.if_icmp .lt 9, 3) := by decide +kernel
theorem dX0_points_5 : decode cX0_points 5 = .ok (.iload_n 1, 1) := by decide +kernel
theorem dX0_points_6 : decode cX0_points 6 = .ok (.bipush 7, 2) := by decide +kernel
theorem dX0_points_8 : decode cX0_points 8 = .ok (.if_icmp .le 5, 3) := by decide +kernel
theorem dX0_points_11 : decode cX0_points 11 = .ok (.iconst 0, 1) := by decide +kernel
theorem dX0_points_12 : decode cX0_points 12 = .ok (.ireturn, 1) := by decide +kernel
theorem dX0_points_13 : decode cX0_points 13 = .ok (.aload_n 0, 1) := by decide +kernel
theorem dX0_points_14 : decode cX0_points 14 = .ok (.iload_n 1, 1) := by decide +kernel
theorem dX0_points_15 : decode cX0_points 15 = .ok (.invokevirtual 21, 3) := by decide +kernel
theorem dX0_points_18 : decode cX0_points 18 = .ok (.iconst 1, 1) := by decide +kernel
theorem dX0_points_19 : decode cX0_points 19 = .ok (.ireturn, 1) := by decide +kernel
theorem dX0_degree_0 : decode cX0_degree 0 = .ok (.aload_n 0, 1) := by decide +kernel
theorem dX0_degree_1 : decode cX0_degree 1 = .ok (.getfield 25, 3) := by decide +kernel
theorem dX0_degree_4 : decode cX0_degree 4 = .ok (.ireturn, 1) := by decide +kernel
set_option maxRecDepth 20000 in
theorem ggX0_add_X0_isPermutation : GoodIn wsX0_add wsX0_isPermutation := goodIn_r _ [12, 13, 14, 15, 11, 16, 62, 63, 64, 65, 66, 67, 68] (by decide +kernel) (by decide +kernel)
set_option maxRecDepth 20000 in
theorem gX0_add_X0_isPermutation : GoodIn wsX0_add (wsV RX0 29 RX0 yX0_isPermutation wsX0_isPermutation) := goodIn_app (goodIn_of _ (by decide +kernel)) ggX0_add_X0_isPermutation
set_option maxRecDepth 20000 in
theorem ggX0_add_X0_extendBy : GoodIn wsX0_add wsX0_extendBy := goodIn_r _ [20, 21, 22, 23, 24, 25, 11, 26, 13, 27, 28, 29, 30, 3, 1, 31, 32, 33, 34, 35, 36, 37, 38, 39, 40, 41, 42, 43, 44, 45, 14, 15, 16, 46, 47, 48, 49, 50, 51, 52, 53, 54, 55, 56, 57, 58, 59, 60, 61, 62, 63, 64, 65, 66, 67, 68] (by decide +kernel) (by decide +kernel)
set_option maxRecDepth 20000 in
theorem gX0_add_X0_extendBy : GoodIn wsX0_add (wsV RX0 42 RX0 yX0_extendBy wsX0_extendBy) := goodIn_app (goodIn_of _ (by decide +kernel)) ggX0_add_X0_extendBy
theorem dX0_add_0 : decode cX0_add 0 = .ok (.aload_n 0, 1) := by decide +kernel
theorem dX0_add_1 : decode cX0_add 1 = .ok (.iload_n 1, 1) := by decide +kernel
theorem dX0_add_2 : decode cX0_add 2 = .ok (.invokevirtual 29, 3) := by decide +kernel
theorem dX0_add_5 : decode cX0_add 5 = .ok (.ifCond .ne 5, 3) := by decide +kernel
theorem dX0_add_8 : decode cX0_add 8 = .ok (.iconst (-1), 1) := by decide +kernel
theorem dX0_add_9 : decode cX0_add 9 = .ok (.ireturn, 1) := by decide +kernel
theorem dX0_add_10 : decode cX0_add 10 = .ok (.aload_n 0, 1) := by decide +kernel
theorem dX0_add_11 : decode cX0_add 11 = .ok (.getfield 33, 3) := by decide +kernel
theorem dX0_add_14 : decode cX0_add 14 = .ok (.bipush 12, 2) := by decide +kernel
theorem dX0_add_16 : decode cX0_add 16 = .ok (.if_icmp .lt 6, 3) := by decide +kernel
theorem dX0_add_19 : decode cX0_add 19 = .ok (.bipush (-2), 2) := by decide +kernel
theorem dX0_add_21 : decode cX0_add 21 = .ok (.ireturn, 1) := by decide +kernel
theorem dX0_add_22 : decode cX0_add 22 = .ok (.aload_n 0, 1) := by decide +kernel
theorem dX0_add_23 : decode cX0_add 23 = .ok (.getfield 9, 3) := by decide +kernel
theorem dX0_add_26 : decode cX0_add 26 = .ok (.aload_n 0, 1) := by decide +kernel
theorem dX0_add_27 : decode cX0_add 27 = .ok (.getfield 33, 3) := by decide +kernel
theorem dX0_add_30 : decode cX0_add 30 = .ok (.iload_n 1, 1) := by decide +kernel
theorem dX0_add_31 : decode cX0_add 31 = .ok (.iastore, 1) := by decide +kernel
theorem dX0_add_32 : decode cX0_add 32 = .ok (.aload_n 0, 1) := by decide +kernel
theorem dX0_add_33 : decode cX0_add 33 = .ok (.getfield 15, 3) := by decide +kernel
theorem dX0_add_36 : decode cX0_add 36 = .ok (.aload_n 0, 1) := by decide +kernel
theorem dX0_add_37 : decode cX0_add 37 = .ok (.getfield 33, 3) := by decide +kernel
theorem dX0_add_40 : decode cX0_add 40 = .ok (.aaload, 1) := by decide +kernel
theorem dX0_add_41 : decode cX0_add 41 = .ok (.iconst 0, 1) := by decide +kernel
theorem dX0_add_42 : decode cX0_add 42 = .ok (.aload_n 0, 1) := by decide +kernel
theorem dX0_add_43 : decode cX0_add 43 = .ok (.getfield 15, 3) := by decide +kernel
theorem dX0_add_46 : decode cX0_add 46 = .ok (.aload_n 0, 1) := by decide +kernel
theorem dX0_add_47 : decode cX0_add 47 = .ok (.getfield 33, 3) := by decide +kernel
theorem dX0_add_50 : decode cX0_add 50 = .ok (.iconst 1, 1) := by decide +kernel
theorem dX0_add_51 : decode cX0_add 51 = .ok (.iadd, 1) := by decide +kernel
theorem dX0_add_52 : decode cX0_add 52 = .ok (.aaload, 1) := by decide +kernel
theorem dX0_add_53 : decode cX0_add 53 = .ok (.iconst 0, 1) := by decide +kernel
theorem dX0_add_54 : decode cX0_add 54 = .ok (.bipush 56, 2) := by decide +kernel
theorem dX0_add_56 : decode cX0_add 56 = .ok (.invokestatic 36, 3) := by decide +kernel
theorem dX0_add_59 : decode cX0_add 59 = .ok (.aload_n 0, 1) := by decide +kernel
theorem dX0_add_60 : decode cX0_add 60 = .ok (.dup, 1) := by decide +kernel
theorem dX0_add_61 : decode cX0_add 61 = .ok (.getfield 33, 3) := by decide +kernel
theorem dX0_add_64 : decode cX0_add 64 = .ok (.iconst 1, 1) := by decide +kernel
theorem dX0_add_65 : decode cX0_add 65 = .ok (.iadd, 1) := by decide +kernel
theorem dX0_add_66 : decode cX0_add 66 = .ok (.putfield 33, 3) := by decide +kernel
theorem dX0_add_69 : decode cX0_add 69 = .ok (.aload_n 0, 1) := by decide +kernel
theorem dX0_add_70 : decode cX0_add 70 = .ok (.iload_n 1, 1) := by decide +kernel
theorem dX0_add_71 : decode cX0_add 71 = .ok (.invokevirtual 42, 3) := by decide +kernel
theorem dX0_add_74 : decode cX0_add 74 = .ok (.aload_n 0, 1) := by decide +kernel
theorem dX0_add_75 : decode cX0_add 75 = .ok (.getfield 33, 3) := by decide +kernel
theorem dX0_add_78 : decode cX0_add 78 = .ok (.iconst 1, 1) := by decide +kernel
theorem dX0_add_79 : decode cX0_add 79 = .ok (.isub, 1) := by decide +kernel
theorem dX0_add_80 : decode cX0_add 80 = .ok (.ireturn, 1) := by decide +kernel
theorem dX0_drop_0 : decode cX0_drop 0 = .ok (.aload_n 0, 1) := by decide +kernel
theorem dX0_drop_1 : decode cX0_drop 1 = .ok (.getfield 33, 3) := by decide +kernel
theorem dX0_drop_4 : decode cX0_drop 4 = .ok (.ifCond .ne 5, 3) := by decide +kernel
theorem dX0_drop_7 : decode cX0_drop 7 = .ok (.iconst 0, 1) := by decide +kernel
theorem dX0_drop_8 : decode cX0_drop 8 = .ok (.ireturn, 1) := by decide +kernel
theorem dX0_drop_9 : decode cX0_drop 9 = .ok (.aload_n 0, 1) := by decide +kernel
theorem dX0_drop_10 : decode cX0_drop 10 = .ok (.dup, 1) := by decide +kernel
theorem dX0_drop_11 : decode cX0_drop 11 = .ok (.getfield 33, 3) := by decide +kernel
theorem dX0_drop_14 : decode cX0_drop 14 = .ok (.iconst 1, 1) := by decide +kernel
theorem dX0_drop_15 : decode cX0_drop 15 = .ok (.isub, 1) := by decide +kernel
theorem dX0_drop_16 : decode cX0_drop 16 = .ok (.putfield 33, 3) := by decide +kernel
theorem dX0_drop_19 : decode cX0_drop 19 = .ok (.iconst 1, 1) := by decide +kernel
theorem dX0_drop_20 : decode cX0_drop 20 = .ok (.ireturn, 1) := by decide +kernel
theorem dX0_generators_0 : decode cX0_generators 0 = .ok (.aload_n 0, 1) := by decide +kernel
theorem dX0_generators_1 : decode cX0_generators 1 = .ok (.getfield 33, 3) := by decide +kernel
theorem dX0_generators_4 : decode cX0_generators 4 = .ok (.ireturn, 1) := by decide +kernel
theorem dX0_generator_0 : decode cX0_generator 0 = .ok (.iload_n 1, 1) := by decide +kernel
theorem dX0_generator_1 : decode cX0_generator 1 = .ok (.ifCond .lt 11, 3) := by decide +kernel
theorem dX0_generator_4 : decode cX0_generator 4 = .ok (.iload_n 1, 1) := by decide +kernel
theorem dX0_generator_5 : decode cX0_generator 5 = .ok (.aload_n 0, 1) := by decide +kernel
theorem dX0_generator_6 : decode cX0_generator 6 = .ok (.getfield 33, 3) := by decide +kernel
theorem dX0_generator_9 : decode cX0_generator 9 = .ok (.if_icmp .lt 7, 3) := by decide +kernel
theorem dX0_generator_12 : decode cX0_generator 12 = .ok (.iconst (-1), 1) := by decide +kernel
theorem dX0_generator_13 : decode cX0_generator 13 = .ok (.goto 9, 3) := by decide +kernel
theorem dX0_generator_16 : decode cX0_generator 16 = .ok (.aload_n 0, 1) := by decide +kernel
theorem dX0_generator_17 : decode cX0_generator 17 = .ok (.getfield 9, 3) := by decide +kernel
theorem dX0_generator_20 : decode cX0_generator 20 = .ok (.iload_n 1, 1) := by decide +kernel
theorem dX0_generator_21 : decode cX0_generator 21 = .ok (.iaload, 1) := by decide +kernel
theorem dX0_generator_22 : decode cX0_generator 22 = .ok (.ireturn, 1) := by decide +kernel
set_option maxRecDepth 20000 in
theorem ggX0_product_X0_isPermutation : GoodIn wsX0_product wsX0_isPermutation := goodIn_r _ [5, 6, 7, 8, 4, 9, 14, 15, 16, 17, 18, 19, 20] (by decide +kernel) (by decide +kernel)
set_option maxRecDepth 20000 in
theorem gX0_product_X0_isPermutation : GoodIn wsX0_product (wsV RX0 29 RX0 yX0_isPermutation wsX0_isPermutation) := goodIn_app (goodIn_of _ (by decide +kernel)) ggX0_product_X0_isPermutation
set_option maxRecDepth 20000 in
theorem ggX0_product_X0_compose : GoodIn wsX0_product wsX0_compose := goodIn_r _ [13, 6, 7, 8, 4, 9, 14, 15, 16, 17, 18, 19, 20] (by decide +kernel) (by decide +kernel)
set_option maxRecDepth 20000 in
theorem gX0_product_X0_compose : GoodIn wsX0_product (wsV RX0 45 RX0 yX0_compose wsX0_compose) := goodIn_app (goodIn_of _ (by decide +kernel)) ggX0_product_X0_compose
theorem dX0_product_0 : decode cX0_product 0 = .ok (.aload_n 0, 1) := by decide +kernel
theorem dX0_product_1 : decode cX0_product 1 = .ok (.iload_n 1, 1) := by decide +kernel
theorem dX0_product_2 : decode cX0_product 2 = .ok (.invokevirtual 29, 3) := by decide +kernel
theorem dX0_product_5 : decode cX0_product 5 = .ok (.ifCond .eq 20, 3) := by decide +kernel
theorem dX0_product_8 : decode cX0_product 8 = .ok (.aload_n 0, 1) := by decide +kernel
theorem dX0_product_9 : decode cX0_product 9 = .ok (.iload_n 2, 1) := by decide +kernel
theorem dX0_product_10 : decode cX0_product 10 = .ok (.invokevirtual 29, 3) := by decide +kernel
theorem dX0_product_13 : decode cX0_product 13 = .ok (.ifCond .eq 12, 3) := by decide +kernel
theorem dX0_product_16 : decode cX0_product 16 = .ok (.aload_n 0, 1) := by decide +kernel
theorem dX0_product_17 : decode cX0_product 17 = .ok (.iload_n 1, 1) := by decide +kernel
theorem dX0_product_18 : decode cX0_product 18 = .ok (.iload_n 2, 1) := by decide +kernel
theorem dX0_product_19 : decode cX0_product 19 = .ok (.invokevirtual 45, 3) := by decide +kernel
theorem dX0_product_22 : decode cX0_product 22 = .ok (.goto 4, 3) := by decide +kernel
theorem dX0_product_25 : decode cX0_product 25 = .ok (.iconst (-1), 1) := by decide +kernel
theorem dX0_product_26 : decode cX0_product 26 = .ok (.ireturn, 1) := by decide +kernel
set_option maxRecDepth 20000 in
theorem ggX0_inverse_X0_isPermutation : GoodIn wsX0_inverse wsX0_isPermutation := goodIn_r _ [5, 6, 7, 8, 4, 9, 14, 15, 16, 17, 18, 19, 20] (by decide +kernel) (by decide +kernel)
set_option maxRecDepth 20000 in
theorem gX0_inverse_X0_isPermutation : GoodIn wsX0_inverse (wsV RX0 29 RX0 yX0_isPermutation wsX0_isPermutation) := goodIn_app (goodIn_of _ (by decide +kernel)) ggX0_inverse_X0_isPermutation
set_option maxRecDepth 20000 in
theorem ggX0_inverse_X0_invert : GoodIn wsX0_inverse wsX0_invert := goodIn_r _ [13, 6, 7, 8, 4, 9, 14, 15, 16, 17, 18, 19, 20] (by decide +kernel) (by decide +kernel)
set_option maxRecDepth 20000 in
theorem gX0_inverse_X0_invert : GoodIn wsX0_inverse (wsV RX0 49 RX0 yX0_invert wsX0_invert) := goodIn_app (goodIn_of _ (by decide +kernel)) ggX0_inverse_X0_invert
theorem dX0_inverse_0 : decode cX0_inverse 0 = .ok (.aload_n 0, 1) := by decide +kernel
theorem dX0_inverse_1 : decode cX0_inverse 1 = .ok (.iload_n 1, 1) := by decide +kernel
theorem dX0_inverse_2 : decode cX0_inverse 2 = .ok (.invokevirtual 29, 3) := by decide +kernel
theorem dX0_inverse_5 : decode cX0_inverse 5 = .ok (.ifCond .eq 11, 3) := by decide +kernel
theorem dX0_inverse_8 : decode cX0_inverse 8 = .ok (.aload_n 0, 1) := by decide +kernel
theorem dX0_inverse_9 : decode cX0_inverse 9 = .ok (.iload_n 1, 1) := by decide +kernel
theorem dX0_inverse_10 : decode cX0_inverse 10 = .ok (.invokevirtual 49, 3) := by decide +kernel
theorem dX0_inverse_13 : decode cX0_inverse 13 = .ok (.goto 4, 3) := by decide +kernel
theorem dX0_inverse_16 : decode cX0_inverse 16 = .ok (.iconst (-1), 1) := by decide +kernel
theorem dX0_inverse_17 : decode cX0_inverse 17 = .ok (.ireturn, 1) := by decide +kernel
set_option maxRecDepth 20000 in
theorem ggX0_order_X0_fixersOfFirst : GoodIn wsX0_order wsX0_fixersOfFirst := goodIn_r _ [5, 6, 7, 8, 9, 4, 10, 11, 12, 13, 14, 15, 16, 17, 18, 19, 20, 21, 22] (by decide +kernel) (by decide +kernel)
set_option maxRecDepth 20000 in
theorem gX0_order_X0_fixersOfFirst : GoodIn wsX0_order (wsV RX0 53 RX0 yX0_fixersOfFirst wsX0_fixersOfFirst) := goodIn_app (goodIn_of _ (by decide +kernel)) ggX0_order_X0_fixersOfFirst
theorem dX0_order_0 : decode cX0_order 0 = .ok (.aload_n 0, 1) := by decide +kernel
theorem dX0_order_1 : decode cX0_order 1 = .ok (.iconst 0, 1) := by decide +kernel
theorem dX0_order_2 : decode cX0_order 2 = .ok (.invokevirtual 53, 3) := by decide +kernel
theorem dX0_order_5 : decode cX0_order 5 = .ok (.ireturn, 1) := by decide +kernel
set_option maxRecDepth 20000 in
theorem ggX0_contains_X0_isPermutation : GoodIn wsX0_contains wsX0_isPermutation := goodIn_r _ [5, 6, 7, 8, 4, 9, 36, 37, 38, 39, 40, 41, 42] (by decide +kernel) (by decide +kernel)
set_option maxRecDepth 20000 in
theorem gX0_contains_X0_isPermutation : GoodIn wsX0_contains (wsV RX0 29 RX0 yX0_isPermutation wsX0_isPermutation) := goodIn_app (goodIn_of _ (by decide +kernel)) ggX0_contains_X0_isPermutation
set_option maxRecDepth 20000 in
theorem ggX0_contains_X0_isElement : GoodIn wsX0_contains wsX0_isElement := goodIn_r _ [13, 14, 15, 16, 17, 4, 18, 6, 7, 8, 9, 19, 20, 21, 22, 23, 24, 25, 26, 27, 28, 29, 30, 31, 32, 33, 34, 35, 36, 37, 38, 39, 40, 41, 42] (by decide +kernel) (by decide +kernel)
set_option maxRecDepth 20000 in
theorem gX0_contains_X0_isElement : GoodIn wsX0_contains (wsV RX0 56 RX0 yX0_isElement wsX0_isElement) := goodIn_app (goodIn_of _ (by decide +kernel)) ggX0_contains_X0_isElement
theorem dX0_contains_0 : decode cX0_contains 0 = .ok (.aload_n 0, 1) := by decide +kernel
theorem dX0_contains_1 : decode cX0_contains 1 = .ok (.iload_n 1, 1) := by decide +kernel
theorem dX0_contains_2 : decode cX0_contains 2 = .ok (.invokevirtual 29, 3) := by decide +kernel
theorem dX0_contains_5 : decode cX0_contains 5 = .ok (.ifCond .eq 15, 3) := by decide +kernel
theorem dX0_contains_8 : decode cX0_contains 8 = .ok (.aload_n 0, 1) := by decide +kernel
theorem dX0_contains_9 : decode cX0_contains 9 = .ok (.iload_n 1, 1) := by decide +kernel
theorem dX0_contains_10 : decode cX0_contains 10 = .ok (.invokevirtual 56, 3) := by decide +kernel
theorem dX0_contains_13 : decode cX0_contains 13 = .ok (.ifCond .eq 7, 3) := by decide +kernel
theorem dX0_contains_16 : decode cX0_contains 16 = .ok (.iconst 1, 1) := by decide +kernel
theorem dX0_contains_17 : decode cX0_contains 17 = .ok (.goto 4, 3) := by decide +kernel
theorem dX0_contains_20 : decode cX0_contains 20 = .ok (.iconst 0, 1) := by decide +kernel
theorem dX0_contains_21 : decode cX0_contains 21 = .ok (.ireturn, 1) := by decide +kernel
set_option maxRecDepth 20000 in
theorem ggX0_orbit_X0_imagesOf : GoodIn wsX0_orbit wsX0_imagesOf := goodIn_r _ [8, 1, 9, 10, 7, 11, 12, 13, 14, 15, 16, 17, 18] (by decide +kernel) (by decide +kernel)
set_option maxRecDepth 20000 in
theorem gX0_orbit_X0_imagesOf : GoodIn wsX0_orbit (wsV RX0 85 RX0 yX0_imagesOf wsX0_imagesOf) := goodIn_app (goodIn_of _ (by decide +kernel)) ggX0_orbit_X0_imagesOf
theorem dX0_orbit_0 : decode cX0_orbit 0 = .ok (.iload_n 1, 1) := by decide +kernel
theorem dX0_orbit_1 : decode cX0_orbit 1 = .ok (.ifCond .lt 11, 3) := by decide +kernel
theorem dX0_orbit_4 : decode cX0_orbit 4 = .ok (.iload_n 1, 1) := by decide +kernel
theorem dX0_orbit_5 : decode cX0_orbit 5 = .ok (.aload_n 0, 1) := by decide +kernel
theorem dX0_orbit_6 : decode cX0_orbit 6 = .ok (.getfield 25, 3) := by decide +kernel
theorem dX0_orbit_9 : decode cX0_orbit 9 = .ok (.if_icmp .lt 5, 3) := by decide +kernel
theorem dX0_orbit_12 : decode cX0_orbit 12 = .ok (.iconst 0, 1) := by decide +kernel
theorem dX0_orbit_13 : decode cX0_orbit 13 = .ok (.ireturn, 1) := by decide +kernel
theorem dX0_orbit_14 : decode cX0_orbit 14 = .ok (.iconst 1, 1) := by decide +kernel
theorem dX0_orbit_15 : decode cX0_orbit 15 = .ok (.iload_n 1, 1) := by decide +kernel
theorem dX0_orbit_16 : decode cX0_orbit 16 = .ok (.ishl, 1) := by decide +kernel
theorem dX0_orbit_17 : decode cX0_orbit 17 = .ok (.istore_n 2, 1) := by decide +kernel
theorem dX0_orbit_18 : decode cX0_orbit 18 = .ok (.iconst 0, 1) := by decide +kernel
theorem dX0_orbit_19 : decode cX0_orbit 19 = .ok (.istore_n 3, 1) := by decide +kernel
theorem dX0_orbit_20 : decode cX0_orbit 20 = .ok (.iload_n 3, 1) := by decide +kernel
theorem dX0_orbit_21 : decode cX0_orbit 21 = .ok (.aload_n 0, 1) := by decide +kernel
theorem dX0_orbit_22 : decode cX0_orbit 22 = .ok (.getfield 25, 3) := by decide +kernel
theorem dX0_orbit_25 : decode cX0_orbit 25 = .ok (.if_icmp .ge 42, 3) := by decide +kernel
theorem dX0_orbit_28 : decode cX0_orbit 28 = .ok (.iconst 0, 1) := by decide +kernel
theorem dX0_orbit_29 : decode cX0_orbit 29 = .ok (.istore 4, 2) := by decide +kernel
theorem dX0_orbit_31 : decode cX0_orbit 31 = .ok (.iload 4, 2) := by decide +kernel
theorem dX0_orbit_33 : decode cX0_orbit 33 = .ok (.aload_n 0, 1) := by decide +kernel
theorem dX0_orbit_34 : decode cX0_orbit 34 = .ok (.getfield 33, 3) := by decide +kernel
theorem dX0_orbit_37 : decode cX0_orbit 37 = .ok (.if_icmp .ge 24, 3) := by decide +kernel
theorem dX0_orbit_40 : decode cX0_orbit 40 = .ok (.iload_n 2, 1) := by decide +kernel
theorem dX0_orbit_41 : decode cX0_orbit 41 = .ok (.aload_n 0, 1) := by decide +kernel
theorem dX0_orbit_42 : decode cX0_orbit 42 = .ok (.iload_n 2, 1) := by decide +kernel
theorem dX0_orbit_43 : decode cX0_orbit 43 = .ok (.aload_n 0, 1) := by decide +kernel
theorem dX0_orbit_44 : decode cX0_orbit 44 = .ok (.getfield 9, 3) := by decide +kernel
theorem dX0_orbit_47 : decode cX0_orbit 47 = .ok (.iload 4, 2) := by decide +kernel
theorem dX0_orbit_49 : decode cX0_orbit 49 = .ok (.iaload, 1) := by decide +kernel
theorem dX0_orbit_50 : decode cX0_orbit 50 = .ok (.invokevirtual 85, 3) := by decide +kernel
theorem dX0_orbit_53 : decode cX0_orbit 53 = .ok (.ior, 1) := by decide +kernel
theorem dX0_orbit_54 : decode cX0_orbit 54 = .ok (.istore_n 2, 1) := by decide +kernel
theorem dX0_orbit_55 : decode cX0_orbit 55 = .ok (.iinc 4 1, 3) := by decide +kernel
theorem dX0_orbit_58 : decode cX0_orbit 58 = .ok (.goto (-27), 3) := by decide +kernel
theorem dX0_orbit_61 : decode cX0_orbit 61 = .ok (.iinc 3 1, 3) := by decide +kernel
theorem dX0_orbit_64 : decode cX0_orbit 64 = .ok (.goto (-44), 3) := by decide +kernel
theorem dX0_orbit_67 : decode cX0_orbit 67 = .ok (.iload_n 2, 1) := by decide +kernel
theorem dX0_orbit_68 : decode cX0_orbit 68 = .ok (.ireturn, 1) := by decide +kernel
set_option maxRecDepth 20000 in
theorem ggX0_fixing_X0_fixersOfFirst : GoodIn wsX0_fixing wsX0_fixersOfFirst := goodIn_r _ [6, 1, 7, 8, 9, 5, 10, 11, 12, 13, 14, 15, 16, 17, 18, 19, 20, 21, 22] (by decide +kernel) (by decide +kernel)
set_option maxRecDepth 20000 in
theorem gX0_fixing_X0_fixersOfFirst : GoodIn wsX0_fixing (wsV RX0 53 RX0 yX0_fixersOfFirst wsX0_fixersOfFirst) := goodIn_app (goodIn_of _ (by decide +kernel)) ggX0_fixing_X0_fixersOfFirst
theorem dX0_fixing_0 : decode cX0_fixing 0 = .ok (.iload_n 1, 1) := by decide +kernel
theorem dX0_fixing_1 : decode cX0_fixing 1 = .ok (.ifCond .lt 11, 3) := by decide +kernel
theorem dX0_fixing_4 : decode cX0_fixing 4 = .ok (.iload_n 1, 1) := by decide +kernel
theorem dX0_fixing_5 : decode cX0_fixing 5 = .ok (.aload_n 0, 1) := by decide +kernel
theorem dX0_fixing_6 : decode cX0_fixing 6 = .ok (.getfield 25, 3) := by decide +kernel
theorem dX0_fixing_9 : decode cX0_fixing 9 = .ok (.if_icmp .le 7, 3) := by decide +kernel
theorem dX0_fixing_12 : decode cX0_fixing 12 = .ok (.iconst 0, 1) := by decide +kernel
theorem dX0_fixing_13 : decode cX0_fixing 13 = .ok (.goto 8, 3) := by decide +kernel
theorem dX0_fixing_16 : decode cX0_fixing 16 = .ok (.aload_n 0, 1) := by decide +kernel
theorem dX0_fixing_17 : decode cX0_fixing 17 = .ok (.iload_n 1, 1) := by decide +kernel
theorem dX0_fixing_18 : decode cX0_fixing 18 = .ok (.invokevirtual 53, 3) := by decide +kernel
theorem dX0_fixing_21 : decode cX0_fixing 21 = .ok (.ireturn, 1) := by decide +kernel
set_option maxRecDepth 20000 in
theorem ggX0_even_X0_fixersOfFirst : GoodIn wsX0_even wsX0_fixersOfFirst := goodIn_r _ [7, 8, 9, 10, 11, 6, 12, 13, 1, 14, 15, 16, 24, 25, 26, 27, 28, 29, 30] (by decide +kernel) (by decide +kernel)
set_option maxRecDepth 20000 in
theorem gX0_even_X0_fixersOfFirst : GoodIn wsX0_even (wsV RX0 53 RX0 yX0_fixersOfFirst wsX0_fixersOfFirst) := goodIn_app (goodIn_of _ (by decide +kernel)) ggX0_even_X0_fixersOfFirst
set_option maxRecDepth 20000 in
theorem ggX0_even_X0_isOdd : GoodIn wsX0_even wsX0_isOdd := goodIn_r _ [20, 8, 21, 22, 6, 23, 24, 25, 26, 27, 28, 29, 30] (by decide +kernel) (by decide +kernel)
set_option maxRecDepth 20000 in
theorem gX0_even_X0_isOdd : GoodIn wsX0_even (wsV RX0 88 RX0 yX0_isOdd wsX0_isOdd) := goodIn_app (goodIn_of _ (by decide +kernel)) ggX0_even_X0_isOdd
theorem dX0_even_0 : decode cX0_even 0 = .ok (.aload_n 0, 1) := by decide +kernel
theorem dX0_even_1 : decode cX0_even 1 = .ok (.iconst 0, 1) := by decide +kernel
theorem dX0_even_2 : decode cX0_even 2 = .ok (.invokevirtual 53, 3) := by decide +kernel
theorem dX0_even_5 : decode cX0_even 5 = .ok (.istore_n 1, 1) := by decide +kernel
theorem dX0_even_6 : decode cX0_even 6 = .ok (.iconst 0, 1) := by decide +kernel
theorem dX0_even_7 : decode cX0_even 7 = .ok (.istore_n 2, 1) := by decide +kernel
theorem dX0_even_8 : decode cX0_even 8 = .ok (.iload_n 2, 1) := by decide +kernel
theorem dX0_even_9 : decode cX0_even 9 = .ok (.aload_n 0, 1) := by decide +kernel
theorem dX0_even_10 : decode cX0_even 10 = .ok (.getfield 33, 3) := by decide +kernel
theorem dX0_even_13 : decode cX0_even 13 = .ok (.if_icmp .ge 26, 3) := by decide +kernel
theorem dX0_even_16 : decode cX0_even 16 = .ok (.aload_n 0, 1) := by decide +kernel
theorem dX0_even_17 : decode cX0_even 17 = .ok (.aload_n 0, 1) := by decide +kernel
theorem dX0_even_18 : decode cX0_even 18 = .ok (.getfield 9, 3) := by decide +kernel
theorem dX0_even_21 : decode cX0_even 21 = .ok (.iload_n 2, 1) := by decide +kernel
theorem dX0_even_22 : decode cX0_even 22 = .ok (.iaload, 1) := by decide +kernel
theorem dX0_even_23 : decode cX0_even 23 = .ok (.invokevirtual 88, 3) := by decide +kernel
theorem dX0_even_26 : decode cX0_even 26 = .ok (.ifCond .eq 7, 3) := by decide +kernel
theorem dX0_even_29 : decode cX0_even 29 = .ok (.iload_n 1, 1) := by decide +kernel
theorem dX0_even_30 : decode cX0_even 30 = .ok (.iconst 2, 1) := by decide +kernel
theorem dX0_even_31 : decode cX0_even 31 = .ok (.idiv, 1) := by decide +kernel
theorem dX0_even_32 : decode cX0_even 32 = .ok (.ireturn, 1) := by decide +kernel
theorem dX0_even_33 : decode cX0_even 33 = .ok (.iinc 2 1, 3) := by decide +kernel
theorem dX0_even_36 : decode cX0_even 36 = .ok (.goto (-28), 3) := by decide +kernel
theorem dX0_even_39 : decode cX0_even 39 = .ok (.iload_n 1, 1) := by decide +kernel
theorem dX0_even_40 : decode cX0_even 40 = .ok (.ireturn, 1) := by decide +kernel
set_option maxRecDepth 20000 in
theorem ggX0_begin_X0_slotOf : GoodIn wsX0_begin wsX0_slotOf := goodIn_r _ [8] (by decide +kernel) (by decide +kernel)
set_option maxRecDepth 20000 in
theorem gX0_begin_X0_slotOf : GoodIn wsX0_begin (va_wsS RX0 91 yX0_slotOf wsX0_slotOf) := goodIn_app (goodIn_of _ (by decide +kernel)) ggX0_begin_X0_slotOf
theorem dX0_begin_0 : decode cX0_begin 0 = .ok (.aload_n 0, 1) := by decide +kernel
theorem dX0_begin_1 : decode cX0_begin 1 = .ok (.iload_n 1, 1) := by decide +kernel
theorem dX0_begin_2 : decode cX0_begin 2 = .ok (.putfield 25, 3) := by decide +kernel
theorem dX0_begin_5 : decode cX0_begin 5 = .ok (.aload_n 0, 1) := by decide +kernel
theorem dX0_begin_6 : decode cX0_begin 6 = .ok (.iconst 0, 1) := by decide +kernel
theorem dX0_begin_7 : decode cX0_begin 7 = .ok (.putfield 33, 3) := by decide +kernel
theorem dX0_begin_10 : decode cX0_begin 10 = .ok (.aload_n 0, 1) := by decide +kernel
theorem dX0_begin_11 : decode cX0_begin 11 = .ok (.iconst 0, 1) := by decide +kernel
theorem dX0_begin_12 : decode cX0_begin 12 = .ok (.putfield 66, 3) := by decide +kernel
theorem dX0_begin_15 : decode cX0_begin 15 = .ok (.iconst 0, 1) := by decide +kernel
theorem dX0_begin_16 : decode cX0_begin 16 = .ok (.istore_n 2, 1) := by decide +kernel
theorem dX0_begin_17 : decode cX0_begin 17 = .ok (.iload_n 2, 1) := by decide +kernel
theorem dX0_begin_18 : decode cX0_begin 18 = .ok (.aload_n 0, 1) := by decide +kernel
theorem dX0_begin_19 : decode cX0_begin 19 = .ok (.getfield 25, 3) := by decide +kernel
theorem dX0_begin_22 : decode cX0_begin 22 = .ok (.if_icmp .ge 23, 3) := by decide +kernel
theorem dX0_begin_25 : decode cX0_begin 25 = .ok (.aload_n 0, 1) := by decide +kernel
theorem dX0_begin_26 : decode cX0_begin 26 = .ok (.dup, 1) := by decide +kernel
theorem dX0_begin_27 : decode cX0_begin 27 = .ok (.getfield 66, 3) := by decide +kernel
theorem dX0_begin_30 : decode cX0_begin 30 = .ok (.iload_n 2, 1) := by decide +kernel
theorem dX0_begin_31 : decode cX0_begin 31 = .ok (.iconst 3, 1) := by decide +kernel
theorem dX0_begin_32 : decode cX0_begin 32 = .ok (.iload_n 2, 1) := by decide +kernel
theorem dX0_begin_33 : decode cX0_begin 33 = .ok (.imul, 1) := by decide +kernel
theorem dX0_begin_34 : decode cX0_begin 34 = .ok (.ishl, 1) := by decide +kernel
theorem dX0_begin_35 : decode cX0_begin 35 = .ok (.ior, 1) := by decide +kernel
theorem dX0_begin_36 : decode cX0_begin 36 = .ok (.putfield 66, 3) := by decide +kernel
theorem dX0_begin_39 : decode cX0_begin 39 = .ok (.iinc 2 1, 3) := by decide +kernel
theorem dX0_begin_42 : decode cX0_begin 42 = .ok (.goto (-25), 3) := by decide +kernel
theorem dX0_begin_45 : decode cX0_begin 45 = .ok (.aload_n 0, 1) := by decide +kernel
theorem dX0_begin_46 : decode cX0_begin 46 = .ok (.getfield 15, 3) := by decide +kernel
theorem dX0_begin_49 : decode cX0_begin 49 = .ok (.iconst 0, 1) := by decide +kernel
theorem dX0_begin_50 : decode cX0_begin 50 = .ok (.aaload, 1) := by decide +kernel
theorem dX0_begin_51 : decode cX0_begin 51 = .ok (.astore_n 2, 1) := by decide +kernel
theorem dX0_begin_52 : decode cX0_begin 52 = .ok (.iconst 0, 1) := by decide +kernel
theorem dX0_begin_53 : decode cX0_begin 53 = .ok (.istore_n 3, 1) := by decide +kernel
theorem dX0_begin_54 : decode cX0_begin 54 = .ok (.iload_n 3, 1) := by decide +kernel
theorem dX0_begin_55 : decode cX0_begin 55 = .ok (.bipush 56, 2) := by decide +kernel
theorem dX0_begin_57 : decode cX0_begin 57 = .ok (.if_icmp .ge 13, 3) := by decide +kernel
theorem dX0_begin_60 : decode cX0_begin 60 = .ok (.aload_n 2, 1) := by decide +kernel
theorem dX0_begin_61 : decode cX0_begin 61 = .ok (.iload_n 3, 1) := by decide +kernel
theorem dX0_begin_62 : decode cX0_begin 62 = .ok (.iconst (-1), 1) := by decide +kernel
theorem dX0_begin_63 : decode cX0_begin 63 = .ok (.iastore, 1) := by decide +kernel
theorem dX0_begin_64 : decode cX0_begin 64 = .ok (.iinc 3 1, 3) := by decide +kernel
theorem dX0_begin_67 : decode cX0_begin 67 = .ok (.goto (-13), 3) := by decide +kernel
theorem dX0_begin_70 : decode cX0_begin 70 = .ok (.iconst 0, 1) := by decide +kernel
theorem dX0_begin_71 : decode cX0_begin 71 = .ok (.istore_n 3, 1) := by decide +kernel
theorem dX0_begin_72 : decode cX0_begin 72 = .ok (.iload_n 3, 1) := by decide +kernel
theorem dX0_begin_73 : decode cX0_begin 73 = .ok (.aload_n 0, 1) := by decide +kernel
theorem dX0_begin_74 : decode cX0_begin 74 = .ok (.getfield 25, 3) := by decide +kernel
theorem dX0_begin_77 : decode cX0_begin 77 = .ok (.if_icmp .ge 20, 3) := by decide +kernel
theorem dX0_begin_80 : decode cX0_begin 80 = .ok (.aload_n 2, 1) := by decide +kernel
theorem dX0_begin_81 : decode cX0_begin 81 = .ok (.iload_n 3, 1) := by decide +kernel
theorem dX0_begin_82 : decode cX0_begin 82 = .ok (.iload_n 3, 1) := by decide +kernel
theorem dX0_begin_83 : decode cX0_begin 83 = .ok (.invokestatic 91, 3) := by decide +kernel
theorem dX0_begin_86 : decode cX0_begin 86 = .ok (.aload_n 0, 1) := by decide +kernel
theorem dX0_begin_87 : decode cX0_begin 87 = .ok (.getfield 66, 3) := by decide +kernel
theorem dX0_begin_90 : decode cX0_begin 90 = .ok (.iastore, 1) := by decide +kernel
theorem dX0_begin_91 : decode cX0_begin 91 = .ok (.iinc 3 1, 3) := by decide +kernel
theorem dX0_begin_94 : decode cX0_begin 94 = .ok (.goto (-22), 3) := by decide +kernel
theorem dX0_begin_97 : decode cX0_begin 97 = .ok (.return_, 1) := by decide +kernel
set_option maxRecDepth 20000 in
theorem ggX0_isPermutation_X0_image : GoodIn wsX0_isPermutation wsX0_image := goodIn_r _ [5] (by decide +kernel) (by decide +kernel)
set_option maxRecDepth 20000 in
theorem gX0_isPermutation_X0_image : GoodIn wsX0_isPermutation (va_wsS RX0 94 yX0_image wsX0_image) := goodIn_app (goodIn_of _ (by decide +kernel)) ggX0_isPermutation_X0_image
theorem dX0_isPermutation_0 : decode cX0_isPermutation 0 = .ok (.iload_n 1, 1) := by decide +kernel
theorem dX0_isPermutation_1 : decode cX0_isPermutation 1 = .ok (.iconst 3, 1) := by decide +kernel
theorem dX0_isPermutation_2 : decode cX0_isPermutation 2 = .ok (.aload_n 0, 1) := by decide +kernel
theorem dX0_isPermutation_3 : decode cX0_isPermutation 3 = .ok (.getfield 25, 3) := by decide +kernel
theorem dX0_isPermutation_6 : decode cX0_isPermutation 6 = .ok (.imul, 1) := by decide +kernel
theorem dX0_isPermutation_7 : decode cX0_isPermutation 7 = .ok (.iushr, 1) := by decide +kernel
theorem dX0_isPermutation_8 : decode cX0_isPermutation 8 = .ok (.ifCond .eq 5, 3) := by decide +kernel
theorem dX0_isPermutation_11 : decode cX0_isPermutation 11 = .ok (.iconst 0, 1) := by decide +kernel
theorem dX0_isPermutation_12 : decode cX0_isPermutation 12 = .ok (.ireturn, 1) := by decide +kernel
theorem dX0_isPermutation_13 : decode cX0_isPermutation 13 = .ok (.iconst 0, 1) := by decide +kernel
theorem dX0_isPermutation_14 : decode cX0_isPermutation 14 = .ok (.istore_n 2, 1) := by decide +kernel
theorem dX0_isPermutation_15 : decode cX0_isPermutation 15 = .ok (.iconst 0, 1) := by decide +kernel
theorem dX0_isPermutation_16 : decode cX0_isPermutation 16 = .ok (.istore_n 3, 1) := by decide +kernel
theorem dX0_isPermutation_17 : decode cX0_isPermutation 17 = .ok (.iload_n 3, 1) := by decide +kernel
theorem dX0_isPermutation_18 : decode cX0_isPermutation 18 = .ok (.aload_n 0, 1) := by decide +kernel
theorem dX0_isPermutation_19 : decode cX0_isPermutation 19 = .ok (.getfield 25, 3) := by decide +kernel
theorem dX0_isPermutation_22 : decode cX0_isPermutation 22 = .ok (.if_icmp .ge 19, 3) := by decide +kernel
theorem dX0_isPermutation_25 : decode cX0_isPermutation 25 = .ok (.iload_n 2, 1) := by decide +kernel
theorem dX0_isPermutation_26 : decode cX0_isPermutation 26 = .ok (.iconst 1, 1) := by decide +kernel
theorem dX0_isPermutation_27 : decode cX0_isPermutation 27 = .ok (.iload_n 1, 1) := by decide +kernel
theorem dX0_isPermutation_28 : decode cX0_isPermutation 28 = .ok (.iload_n 3, 1) := by decide +kernel
theorem dX0_isPermutation_29 : decode cX0_isPermutation 29 = .ok (.invokestatic 94, 3) := by decide +kernel
theorem dX0_isPermutation_32 : decode cX0_isPermutation 32 = .ok (.ishl, 1) := by decide +kernel
theorem dX0_isPermutation_33 : decode cX0_isPermutation 33 = .ok (.ior, 1) := by decide +kernel
theorem dX0_isPermutation_34 : decode cX0_isPermutation 34 = .ok (.istore_n 2, 1) := by decide +kernel
theorem dX0_isPermutation_35 : decode cX0_isPermutation 35 = .ok (.iinc 3 1, 3) := by decide +kernel
theorem dX0_isPermutation_38 : decode cX0_isPermutation 38 = .ok (.goto (-21), 3) := by decide +kernel
theorem dX0_isPermutation_41 : decode cX0_isPermutation 41 = .ok (.iload_n 2, 1) := by decide +kernel
theorem dX0_isPermutation_42 : decode cX0_isPermutation 42 = .ok (.iconst 1, 1) := by decide +kernel
theorem dX0_isPermutation_43 : decode cX0_isPermutation 43 = .ok (.aload_n 0, 1) := by decide +kernel
theorem dX0_isPermutation_44 : decode cX0_isPermutation 44 = .ok (.getfield 25, 3) := by decide +kernel
theorem dX0_isPermutation_47 : decode cX0_isPermutation 47 = .ok (.ishl, 1) := by decide +kernel
theorem dX0_isPermutation_48 : decode cX0_isPermutation 48 = .ok (.iconst 1, 1) := by decide +kernel
theorem dX0_isPermutation_49 : decode cX0_isPermutation 49 = .ok (.isub, 1) := by decide +kernel
theorem dX0_isPermutation_50 : decode cX0_isPermutation 50 = .ok (.if_icmp .ne 7, 3) := by decide +kernel
theorem dX0_isPermutation_53 : decode cX0_isPermutation 53 = .ok (.iconst 1, 1) := by decide +kernel
theorem dX0_isPermutation_54 : decode cX0_isPermutation 54 = .ok (.goto 4, 3) := by decide +kernel
theorem dX0_isPermutation_57 : decode cX0_isPermutation 57 = .ok (.iconst 0, 1) := by decide +kernel
theorem dX0_isPermutation_58 : decode cX0_isPermutation 58 = .ok (.ireturn, 1) := by decide +kernel
theorem dX0_image_0 : decode cX0_image 0 = .ok (.iload_n 0, 1) := by decide +kernel
theorem dX0_image_1 : decode cX0_image 1 = .ok (.iconst 3, 1) := by decide +kernel
theorem dX0_image_2 : decode cX0_image 2 = .ok (.iload_n 1, 1) := by decide +kernel
theorem dX0_image_3 : decode cX0_image 3 = .ok (.imul, 1) := by decide +kernel
theorem dX0_image_4 : decode cX0_image 4 = .ok (.iushr, 1) := by decide +kernel
theorem dX0_image_5 : decode cX0_image 5 = .ok (.bipush 7, 2) := by decide +kernel
theorem dX0_image_7 : decode cX0_image 7 = .ok (.iand, 1) := by decide +kernel
theorem dX0_image_8 : decode cX0_image 8 = .ok (.ireturn, 1) := by decide +kernel
set_option maxRecDepth 20000 in
theorem ggX0_compose_X0_image : GoodIn wsX0_compose wsX0_image := goodIn_r _ [5] (by decide +kernel) (by decide +kernel)
set_option maxRecDepth 20000 in
theorem gX0_compose_X0_image : GoodIn wsX0_compose (va_wsS RX0 94 yX0_image wsX0_image) := goodIn_app (goodIn_of _ (by decide +kernel)) ggX0_compose_X0_image
theorem dX0_compose_0 : decode cX0_compose 0 = .ok (.iconst 0, 1) := by decide +kernel
theorem dX0_compose_1 : decode cX0_compose 1 = .ok (.istore_n 3, 1) := by decide +kernel
theorem dX0_compose_2 : decode cX0_compose 2 = .ok (.iconst 0, 1) := by decide +kernel
theorem dX0_compose_3 : decode cX0_compose 3 = .ok (.istore 4, 2) := by decide +kernel
theorem dX0_compose_5 : decode cX0_compose 5 = .ok (.iload 4, 2) := by decide +kernel
theorem dX0_compose_7 : decode cX0_compose 7 = .ok (.aload_n 0, 1) := by decide +kernel
theorem dX0_compose_8 : decode cX0_compose 8 = .ok (.getfield 25, 3) := by decide +kernel
theorem dX0_compose_11 : decode cX0_compose 11 = .ok (.if_icmp .ge 27, 3) := by decide +kernel
theorem dX0_compose_14 : decode cX0_compose 14 = .ok (.iload_n 3, 1) := by decide +kernel
theorem dX0_compose_15 : decode cX0_compose 15 = .ok (.iload_n 2, 1) := by decide +kernel
theorem dX0_compose_16 : decode cX0_compose 16 = .ok (.iload_n 1, 1) := by decide +kernel
theorem dX0_compose_17 : decode cX0_compose 17 = .ok (.iload 4, 2) := by decide +kernel
theorem dX0_compose_19 : decode cX0_compose 19 = .ok (.invokestatic 94, 3) := by decide +kernel
theorem dX0_compose_22 : decode cX0_compose 22 = .ok (.invokestatic 94, 3) := by decide +kernel
theorem dX0_compose_25 : decode cX0_compose 25 = .ok (.iconst 3, 1) := by decide +kernel
theorem dX0_compose_26 : decode cX0_compose 26 = .ok (.iload 4, 2) := by decide +kernel
theorem dX0_compose_28 : decode cX0_compose 28 = .ok (.imul, 1) := by decide +kernel
theorem dX0_compose_29 : decode cX0_compose 29 = .ok (.ishl, 1) := by decide +kernel
theorem dX0_compose_30 : decode cX0_compose 30 = .ok (.ior, 1) := by decide +kernel
theorem dX0_compose_31 : decode cX0_compose 31 = .ok (.istore_n 3, 1) := by decide +kernel
theorem dX0_compose_32 : decode cX0_compose 32 = .ok (.iinc 4 1, 3) := by decide +kernel
theorem dX0_compose_35 : decode cX0_compose 35 = .ok (.goto (-30), 3) := by decide +kernel
theorem dX0_compose_38 : decode cX0_compose 38 = .ok (.iload_n 3, 1) := by decide +kernel
theorem dX0_compose_39 : decode cX0_compose 39 = .ok (.ireturn, 1) := by decide +kernel
set_option maxRecDepth 20000 in
theorem ggX0_invert_X0_image : GoodIn wsX0_invert wsX0_image := goodIn_r _ [5] (by decide +kernel) (by decide +kernel)
set_option maxRecDepth 20000 in
theorem gX0_invert_X0_image : GoodIn wsX0_invert (va_wsS RX0 94 yX0_image wsX0_image) := goodIn_app (goodIn_of _ (by decide +kernel)) ggX0_invert_X0_image
theorem dX0_invert_0 : decode cX0_invert 0 = .ok (.iconst 0, 1) := by decide +kernel
theorem dX0_invert_1 : decode cX0_invert 1 = .ok (.istore_n 2, 1) := by decide +kernel
theorem dX0_invert_2 : decode cX0_invert 2 = .ok (.iconst 0, 1) := by decide +kernel
theorem dX0_invert_3 : decode cX0_invert 3 = .ok (.istore_n 3, 1) := by decide +kernel
theorem dX0_invert_4 : decode cX0_invert 4 = .ok (.iload_n 3, 1) := by decide +kernel
theorem dX0_invert_5 : decode cX0_invert 5 = .ok (.aload_n 0, 1) := by decide +kernel
theorem dX0_invert_6 : decode cX0_invert 6 = .ok (.getfield 25, 3) := by decide +kernel
theorem dX0_invert_9 : decode cX0_invert 9 = .ok (.if_icmp .ge 21, 3) := by decide +kernel
theorem dX0_invert_12 : decode cX0_invert 12 = .ok (.iload_n 2, 1) := by decide +kernel
theorem dX0_invert_13 : decode cX0_invert 13 = .ok (.iload_n 3, 1) := by decide +kernel
theorem dX0_invert_14 : decode cX0_invert 14 = .ok (.iconst 3, 1) := by decide +kernel
theorem dX0_invert_15 : decode cX0_invert 15 = .ok (.iload_n 1, 1) := by decide +kernel
theorem dX0_invert_16 : decode cX0_invert 16 = .ok (.iload_n 3, 1) := by decide +kernel
theorem dX0_invert_17 : decode cX0_invert 17 = .ok (.invokestatic 94, 3) := by decide +kernel
theorem dX0_invert_20 : decode cX0_invert 20 = .ok (.imul, 1) := by decide +kernel
theorem dX0_invert_21 : decode cX0_invert 21 = .ok (.ishl, 1) := by decide +kernel
theorem dX0_invert_22 : decode cX0_invert 22 = .ok (.ior, 1) := by decide +kernel
theorem dX0_invert_23 : decode cX0_invert 23 = .ok (.istore_n 2, 1) := by decide +kernel
theorem dX0_invert_24 : decode cX0_invert 24 = .ok (.iinc 3 1, 3) := by decide +kernel
theorem dX0_invert_27 : decode cX0_invert 27 = .ok (.goto (-23), 3) := by decide +kernel
theorem dX0_invert_30 : decode cX0_invert 30 = .ok (.iload_n 2, 1) := by decide +kernel
theorem dX0_invert_31 : decode cX0_invert 31 = .ok (.ireturn, 1) := by decide +kernel
set_option maxRecDepth 20000 in
theorem ggX0_isOdd_X0_image : GoodIn wsX0_isOdd wsX0_image := goodIn_r _ [5] (by decide +kernel) (by decide +kernel)
set_option maxRecDepth 20000 in
theorem gX0_isOdd_X0_image : GoodIn wsX0_isOdd (va_wsS RX0 94 yX0_image wsX0_image) := goodIn_app (goodIn_of _ (by decide +kernel)) ggX0_isOdd_X0_image
theorem dX0_isOdd_0 : decode cX0_isOdd 0 = .ok (.iconst 0, 1) := by decide +kernel
theorem dX0_isOdd_1 : decode cX0_isOdd 1 = .ok (.istore_n 2, 1) := by decide +kernel
theorem dX0_isOdd_2 : decode cX0_isOdd 2 = .ok (.iconst 1, 1) := by decide +kernel
theorem dX0_isOdd_3 : decode cX0_isOdd 3 = .ok (.istore_n 3, 1) := by decide +kernel
theorem dX0_isOdd_4 : decode cX0_isOdd 4 = .ok (.iload_n 3, 1) := by decide +kernel
theorem dX0_isOdd_5 : decode cX0_isOdd 5 = .ok (.aload_n 0, 1) := by decide +kernel
theorem dX0_isOdd_6 : decode cX0_isOdd 6 = .ok (.getfield 25, 3) := by decide +kernel
theorem dX0_isOdd_9 : decode cX0_isOdd 9 = .ok (.if_icmp .ge 41, 3) := by decide +kernel
theorem dX0_isOdd_12 : decode cX0_isOdd 12 = .ok (.iconst 0, 1) := by decide +kernel
theorem dX0_isOdd_13 : decode cX0_isOdd 13 = .ok (.istore 4, 2) := by decide +kernel
theorem dX0_isOdd_15 : decode cX0_isOdd 15 = .ok (.iload 4, 2) := by decide +kernel
theorem dX0_isOdd_17 : decode cX0_isOdd 17 = .ok (.iload_n 3, 1) := by decide +kernel
theorem dX0_isOdd_18 : decode cX0_isOdd 18 = .ok (.if_icmp .ge 26, 3) := by decide +kernel
theorem dX0_isOdd_21 : decode cX0_isOdd 21 = .ok (.iload_n 1, 1) := by decide +kernel
theorem dX0_isOdd_22 : decode cX0_isOdd 22 = .ok (.iload 4, 2) := by decide +kernel
theorem dX0_isOdd_24 : decode cX0_isOdd 24 = .ok (.invokestatic 94, 3) := by decide +kernel
theorem dX0_isOdd_27 : decode cX0_isOdd 27 = .ok (.iload_n 1, 1) := by decide +kernel
theorem dX0_isOdd_28 : decode cX0_isOdd 28 = .ok (.iload_n 3, 1) := by decide +kernel
theorem dX0_isOdd_29 : decode cX0_isOdd 29 = .ok (.invokestatic 94, 3) := by decide +kernel
theorem dX0_isOdd_32 : decode cX0_isOdd 32 = .ok (.if_icmp .le 6, 3) := by decide +kernel
theorem dX0_isOdd_35 : decode cX0_isOdd 35 = .ok (.iinc 2 1, 3) := by decide +kernel
theorem dX0_isOdd_38 : decode cX0_isOdd 38 = .ok (.iinc 4 1, 3) := by decide +kernel
theorem dX0_isOdd_41 : decode cX0_isOdd 41 = .ok (.goto (-26), 3) := by decide +kernel
theorem dX0_isOdd_44 : decode cX0_isOdd 44 = .ok (.iinc 3 1, 3) := by decide +kernel
theorem dX0_isOdd_47 : decode cX0_isOdd 47 = .ok (.goto (-43), 3) := by decide +kernel
theorem dX0_isOdd_50 : decode cX0_isOdd 50 = .ok (.iload_n 2, 1) := by decide +kernel
theorem dX0_isOdd_51 : decode cX0_isOdd 51 = .ok (.iconst 1, 1) := by decide +kernel
theorem dX0_isOdd_52 : decode cX0_isOdd 52 = .ok (.iand, 1) := by decide +kernel
theorem dX0_isOdd_53 : decode cX0_isOdd 53 = .ok (.iconst 1, 1) := by decide +kernel
theorem dX0_isOdd_54 : decode cX0_isOdd 54 = .ok (.if_icmp .ne 7, 3) := by decide +kernel
theorem dX0_isOdd_57 : decode cX0_isOdd 57 = .ok (.iconst 1, 1) := by decide +kernel
theorem dX0_isOdd_58 : decode cX0_isOdd 58 = .ok (.goto 4, 3) := by decide +kernel
theorem dX0_isOdd_61 : decode cX0_isOdd 61 = .ok (.iconst 0, 1) := by decide +kernel
theorem dX0_isOdd_62 : decode cX0_isOdd 62 = .ok (.ireturn, 1) := by decide +kernel
set_option maxRecDepth 20000 in
theorem ggX0_imagesOf_X0_image : GoodIn wsX0_imagesOf wsX0_image := goodIn_r _ [5] (by decide +kernel) (by decide +kernel)
set_option maxRecDepth 20000 in
theorem gX0_imagesOf_X0_image : GoodIn wsX0_imagesOf (va_wsS RX0 94 yX0_image wsX0_image) := goodIn_app (goodIn_of _ (by decide +kernel)) ggX0_imagesOf_X0_image
theorem dX0_imagesOf_0 : decode cX0_imagesOf 0 = .ok (.iconst 0, 1) := by decide +kernel
theorem dX0_imagesOf_1 : decode cX0_imagesOf 1 = .ok (.istore_n 3, 1) := by decide +kernel
theorem dX0_imagesOf_2 : decode cX0_imagesOf 2 = .ok (.iconst 0, 1) := by decide +kernel
theorem dX0_imagesOf_3 : decode cX0_imagesOf 3 = .ok (.istore 4, 2) := by decide +kernel
theorem dX0_imagesOf_5 : decode cX0_imagesOf 5 = .ok (.iload 4, 2) := by decide +kernel
theorem dX0_imagesOf_7 : decode cX0_imagesOf 7 = .ok (.aload_n 0, 1) := by decide +kernel
theorem dX0_imagesOf_8 : decode cX0_imagesOf 8 = .ok (.getfield 25, 3) := by decide +kernel
theorem dX0_imagesOf_11 : decode cX0_imagesOf 11 = .ok (.if_icmp .ge 30, 3) := by decide +kernel
theorem dX0_imagesOf_14 : decode cX0_imagesOf 14 = .ok (.iload_n 1, 1) := by decide +kernel
theorem dX0_imagesOf_15 : decode cX0_imagesOf 15 = .ok (.iload 4, 2) := by decide +kernel
theorem dX0_imagesOf_17 : decode cX0_imagesOf 17 = .ok (.iushr, 1) := by decide +kernel
theorem dX0_imagesOf_18 : decode cX0_imagesOf 18 = .ok (.iconst 1, 1) := by decide +kernel
theorem dX0_imagesOf_19 : decode cX0_imagesOf 19 = .ok (.iand, 1) := by decide +kernel
theorem dX0_imagesOf_20 : decode cX0_imagesOf 20 = .ok (.iconst 1, 1) := by decide +kernel
theorem dX0_imagesOf_21 : decode cX0_imagesOf 21 = .ok (.if_icmp .ne 14, 3) := by decide +kernel
theorem dX0_imagesOf_24 : decode cX0_imagesOf 24 = .ok (.iload_n 3, 1) := by decide +kernel
theorem dX0_imagesOf_25 : decode cX0_imagesOf 25 = .ok (.iconst 1, 1) := by decide +kernel
theorem dX0_imagesOf_26 : decode cX0_imagesOf 26 = .ok (.iload_n 2, 1) := by decide +kernel
theorem dX0_imagesOf_27 : decode cX0_imagesOf 27 = .ok (.iload 4, 2) := by decide +kernel
theorem dX0_imagesOf_29 : decode cX0_imagesOf 29 = .ok (.invokestatic 94, 3) := by decide +kernel
theorem dX0_imagesOf_32 : decode cX0_imagesOf 32 = .ok (.ishl, 1) := by decide +kernel
theorem dX0_imagesOf_33 : decode cX0_imagesOf 33 = .ok (.ior, 1) := by decide +kernel
theorem dX0_imagesOf_34 : decode cX0_imagesOf 34 = .ok (.istore_n 3, 1) := by decide +kernel
theorem dX0_imagesOf_35 : decode cX0_imagesOf 35 = .ok (.iinc 4 1, 3) := by decide +kernel
theorem dX0_imagesOf_38 : decode cX0_imagesOf 38 = .ok (.goto (-33), 3) := by decide +kernel
theorem dX0_imagesOf_41 : decode cX0_imagesOf 41 = .ok (.iload_n 3, 1) := by decide +kernel
theorem dX0_imagesOf_42 : decode cX0_imagesOf 42 = .ok (.ireturn, 1) := by decide +kernel
theorem dX0_slotOf_0 : decode cX0_slotOf 0 = .ok (.iload_n 0, 1) := by decide +kernel
theorem dX0_slotOf_1 : decode cX0_slotOf 1 = .ok (.bipush 8, 2) := by decide +kernel
theorem dX0_slotOf_3 : decode cX0_slotOf 3 = .ok (.imul, 1) := by decide +kernel
theorem dX0_slotOf_4 : decode cX0_slotOf 4 = .ok (.iload_n 1, 1) := by decide +kernel
theorem dX0_slotOf_5 : decode cX0_slotOf 5 = .ok (.iadd, 1) := by decide +kernel
theorem dX0_slotOf_6 : decode cX0_slotOf 6 = .ok (.ireturn, 1) := by decide +kernel
set_option maxRecDepth 20000 in
theorem ggX0_entry_X0_slotOf : GoodIn wsX0_entry wsX0_slotOf := goodIn_r _ [6] (by decide +kernel) (by decide +kernel)
set_option maxRecDepth 20000 in
theorem gX0_entry_X0_slotOf : GoodIn wsX0_entry (va_wsS RX0 91 yX0_slotOf wsX0_slotOf) := goodIn_app (goodIn_of _ (by decide +kernel)) ggX0_entry_X0_slotOf
theorem dX0_entry_0 : decode cX0_entry 0 = .ok (.aload_n 0, 1) := by decide +kernel
theorem dX0_entry_1 : decode cX0_entry 1 = .ok (.getfield 15, 3) := by decide +kernel
theorem dX0_entry_4 : decode cX0_entry 4 = .ok (.aload_n 0, 1) := by decide +kernel
theorem dX0_entry_5 : decode cX0_entry 5 = .ok (.getfield 33, 3) := by decide +kernel
theorem dX0_entry_8 : decode cX0_entry 8 = .ok (.aaload, 1) := by decide +kernel
theorem dX0_entry_9 : decode cX0_entry 9 = .ok (.iload_n 1, 1) := by decide +kernel
theorem dX0_entry_10 : decode cX0_entry 10 = .ok (.iload_n 2, 1) := by decide +kernel
theorem dX0_entry_11 : decode cX0_entry 11 = .ok (.invokestatic 91, 3) := by decide +kernel
theorem dX0_entry_14 : decode cX0_entry 14 = .ok (.iaload, 1) := by decide +kernel
theorem dX0_entry_15 : decode cX0_entry 15 = .ok (.ireturn, 1) := by decide +kernel
set_option maxRecDepth 20000 in
theorem ggX0_fixersOfFirst_X0_entry : GoodIn wsX0_fixersOfFirst wsX0_entry := goodIn_r _ [6, 7, 8, 9, 10, 5, 11, 12, 13, 14, 15, 16, 17, 18] (by decide +kernel) (by decide +kernel)
set_option maxRecDepth 20000 in
theorem gX0_fixersOfFirst_X0_entry : GoodIn wsX0_fixersOfFirst (wsV RX0 97 RX0 yX0_entry wsX0_entry) := goodIn_app (goodIn_of _ (by decide +kernel)) ggX0_fixersOfFirst_X0_entry
theorem dX0_fixersOfFirst_0 : decode cX0_fixersOfFirst 0 = .ok (.iconst 1, 1) := by decide +kernel
theorem dX0_fixersOfFirst_1 : decode cX0_fixersOfFirst 1 = .ok (.istore_n 2, 1) := by decide +kernel
theorem dX0_fixersOfFirst_2 : decode cX0_fixersOfFirst 2 = .ok (.iload_n 1, 1) := by decide +kernel
theorem dX0_fixersOfFirst_3 : decode cX0_fixersOfFirst 3 = .ok (.istore_n 3, 1) := by decide +kernel
theorem dX0_fixersOfFirst_4 : decode cX0_fixersOfFirst 4 = .ok (.iload_n 3, 1) := by decide +kernel
theorem dX0_fixersOfFirst_5 : decode cX0_fixersOfFirst 5 = .ok (.aload_n 0, 1) := by decide +kernel
theorem dX0_fixersOfFirst_6 : decode cX0_fixersOfFirst 6 = .ok (.getfield 25, 3) := by decide +kernel
theorem dX0_fixersOfFirst_9 : decode cX0_fixersOfFirst 9 = .ok (.if_icmp .ge 49, 3) := by decide +kernel
theorem dX0_fixersOfFirst_12 : decode cX0_fixersOfFirst 12 = .ok (.iconst 0, 1) := by decide +kernel
theorem dX0_fixersOfFirst_13 : decode cX0_fixersOfFirst 13 = .ok (.istore 4, 2) := by decide +kernel
theorem dX0_fixersOfFirst_15 : decode cX0_fixersOfFirst 15 = .ok (.iload_n 3, 1) := by decide +kernel
theorem dX0_fixersOfFirst_16 : decode cX0_fixersOfFirst 16 = .ok (.istore 5, 2) := by decide +kernel
theorem dX0_fixersOfFirst_18 : decode cX0_fixersOfFirst 18 = .ok (.iload 5, 2) := by decide +kernel
theorem dX0_fixersOfFirst_20 : decode cX0_fixersOfFirst 20 = .ok (.aload_n 0, 1) := by decide +kernel
theorem dX0_fixersOfFirst_21 : decode cX0_fixersOfFirst 21 = .ok (.getfield 25, 3) := by decide +kernel
theorem dX0_fixersOfFirst_24 : decode cX0_fixersOfFirst 24 = .ok (.if_icmp .ge 23, 3) := by decide +kernel
theorem dX0_fixersOfFirst_27 : decode cX0_fixersOfFirst 27 = .ok (.aload_n 0, 1) := by decide +kernel
theorem dX0_fixersOfFirst_28 : decode cX0_fixersOfFirst 28 = .ok (.iload_n 3, 1) := by decide +kernel
theorem dX0_fixersOfFirst_29 : decode cX0_fixersOfFirst 29 = .ok (.iload 5, 2) := by decide +kernel
theorem dX0_fixersOfFirst_31 : decode cX0_fixersOfFirst 31 = .ok (.invokevirtual 97, 3) := by decide +kernel
theorem dX0_fixersOfFirst_34 : decode cX0_fixersOfFirst 34 = .ok (.iconst (-1), 1) := by decide +kernel
theorem dX0_fixersOfFirst_35 : decode cX0_fixersOfFirst 35 = .ok (.if_icmp .eq 6, 3) := by decide +kernel
theorem dX0_fixersOfFirst_38 : decode cX0_fixersOfFirst 38 = .ok (.iinc 4 1, 3) := by decide +kernel
theorem dX0_fixersOfFirst_41 : decode cX0_fixersOfFirst 41 = .ok (.iinc 5 1, 3) := by decide +kernel
theorem dX0_fixersOfFirst_44 : decode cX0_fixersOfFirst 44 = .ok (.goto (-26), 3) := by decide +kernel
theorem dX0_fixersOfFirst_47 : decode cX0_fixersOfFirst 47 = .ok (.iload_n 2, 1) := by decide +kernel
theorem dX0_fixersOfFirst_48 : decode cX0_fixersOfFirst 48 = .ok (.iload 4, 2) := by decide +kernel
theorem dX0_fixersOfFirst_50 : decode cX0_fixersOfFirst 50 = .ok (.imul, 1) := by decide +kernel
theorem dX0_fixersOfFirst_51 : decode cX0_fixersOfFirst 51 = .ok (.istore_n 2, 1) := by decide +kernel
theorem dX0_fixersOfFirst_52 : decode cX0_fixersOfFirst 52 = .ok (.iinc 3 1, 3) := by decide +kernel
theorem dX0_fixersOfFirst_55 : decode cX0_fixersOfFirst 55 = .ok (.goto (-51), 3) := by decide +kernel
theorem dX0_fixersOfFirst_58 : decode cX0_fixersOfFirst 58 = .ok (.iload_n 2, 1) := by decide +kernel
theorem dX0_fixersOfFirst_59 : decode cX0_fixersOfFirst 59 = .ok (.ireturn, 1) := by decide +kernel
set_option maxRecDepth 20000 in
theorem ggX0_residue_X0_image : GoodIn wsX0_residue wsX0_image := goodIn_r _ [5] (by decide +kernel) (by decide +kernel)
set_option maxRecDepth 20000 in
theorem gX0_residue_X0_image : GoodIn wsX0_residue (va_wsS RX0 94 yX0_image wsX0_image) := goodIn_app (goodIn_of _ (by decide +kernel)) ggX0_residue_X0_image
set_option maxRecDepth 20000 in
theorem ggX0_residue_X0_entry : GoodIn wsX0_residue wsX0_entry := goodIn_r _ [9, 10, 11, 12, 13, 4, 14, 23, 24, 25, 26, 27, 28, 29] (by decide +kernel) (by decide +kernel)
set_option maxRecDepth 20000 in
theorem gX0_residue_X0_entry : GoodIn wsX0_residue (wsV RX0 97 RX0 yX0_entry wsX0_entry) := goodIn_app (goodIn_of _ (by decide +kernel)) ggX0_residue_X0_entry
set_option maxRecDepth 20000 in
theorem ggX0_residue_X0_invert : GoodIn wsX0_residue wsX0_invert := goodIn_r _ [18, 1, 2, 3, 4, 5, 23, 24, 25, 26, 27, 28, 29] (by decide +kernel) (by decide +kernel)
set_option maxRecDepth 20000 in
theorem gX0_residue_X0_invert : GoodIn wsX0_residue (wsV RX0 49 RX0 yX0_invert wsX0_invert) := goodIn_app (goodIn_of _ (by decide +kernel)) ggX0_residue_X0_invert
set_option maxRecDepth 20000 in
theorem ggX0_residue_X0_compose : GoodIn wsX0_residue wsX0_compose := goodIn_r _ [22, 1, 2, 3, 4, 5, 23, 24, 25, 26, 27, 28, 29] (by decide +kernel) (by decide +kernel)
set_option maxRecDepth 20000 in
theorem gX0_residue_X0_compose : GoodIn wsX0_residue (wsV RX0 45 RX0 yX0_compose wsX0_compose) := goodIn_app (goodIn_of _ (by decide +kernel)) ggX0_residue_X0_compose
theorem dX0_residue_0 : decode cX0_residue 0 = .ok (.iload_n 1, 1) := by decide +kernel
theorem dX0_residue_1 : decode cX0_residue 1 = .ok (.istore_n 2, 1) := by decide +kernel
theorem dX0_residue_2 : decode cX0_residue 2 = .ok (.iconst 0, 1) := by decide +kernel
theorem dX0_residue_3 : decode cX0_residue 3 = .ok (.istore_n 3, 1) := by decide +kernel
theorem dX0_residue_4 : decode cX0_residue 4 = .ok (.iload_n 3, 1) := by decide +kernel
theorem dX0_residue_5 : decode cX0_residue 5 = .ok (.aload_n 0, 1) := by decide +kernel
theorem dX0_residue_6 : decode cX0_residue 6 = .ok (.getfield 25, 3) := by decide +kernel
theorem dX0_residue_9 : decode cX0_residue 9 = .ok (.if_icmp .ge 51, 3) := by decide +kernel
theorem dX0_residue_12 : decode cX0_residue 12 = .ok (.iload_n 2, 1) := by decide +kernel
theorem dX0_residue_13 : decode cX0_residue 13 = .ok (.iload_n 3, 1) := by decide +kernel
theorem dX0_residue_14 : decode cX0_residue 14 = .ok (.invokestatic 94, 3) := by decide +kernel
theorem dX0_residue_17 : decode cX0_residue 17 = .ok (.istore 4, 2) := by decide +kernel
theorem dX0_residue_19 : decode cX0_residue 19 = .ok (.iload 4, 2) := by decide +kernel
theorem dX0_residue_21 : decode cX0_residue 21 = .ok (.iload_n 3, 1) := by decide +kernel
theorem dX0_residue_22 : decode cX0_residue 22 = .ok (.if_icmp .eq 32, 3) := by decide +kernel
theorem dX0_residue_25 : decode cX0_residue 25 = .ok (.aload_n 0, 1) := by decide +kernel
theorem dX0_residue_26 : decode cX0_residue 26 = .ok (.iload_n 3, 1) := by decide +kernel
theorem dX0_residue_27 : decode cX0_residue 27 = .ok (.iload 4, 2) := by decide +kernel
theorem dX0_residue_29 : decode cX0_residue 29 = .ok (.invokevirtual 97, 3) := by decide +kernel
theorem dX0_residue_32 : decode cX0_residue 32 = .ok (.istore 5, 2) := by decide +kernel
theorem dX0_residue_34 : decode cX0_residue 34 = .ok (.iload 5, 2) := by decide +kernel
theorem dX0_residue_36 : decode cX0_residue 36 = .ok (.iconst (-1), 1) := by decide +kernel
theorem dX0_residue_37 : decode cX0_residue 37 = .ok (.if_icmp .ne 5, 3) := by decide +kernel
theorem dX0_residue_40 : decode cX0_residue 40 = .ok (.iload_n 2, 1) := by decide +kernel
theorem dX0_residue_41 : decode cX0_residue 41 = .ok (.ireturn, 1) := by decide +kernel
theorem dX0_residue_42 : decode cX0_residue 42 = .ok (.aload_n 0, 1) := by decide +kernel
theorem dX0_residue_43 : decode cX0_residue 43 = .ok (.iload_n 2, 1) := by decide +kernel
theorem dX0_residue_44 : decode cX0_residue 44 = .ok (.aload_n 0, 1) := by decide +kernel
theorem dX0_residue_45 : decode cX0_residue 45 = .ok (.iload 5, 2) := by decide +kernel
theorem dX0_residue_47 : decode cX0_residue 47 = .ok (.invokevirtual 49, 3) := by decide +kernel
theorem dX0_residue_50 : decode cX0_residue 50 = .ok (.invokevirtual 45, 3) := by decide +kernel
theorem dX0_residue_53 : decode cX0_residue 53 = .ok (.istore_n 2, 1) := by decide +kernel
theorem dX0_residue_54 : decode cX0_residue 54 = .ok (.iinc 3 1, 3) := by decide +kernel
theorem dX0_residue_57 : decode cX0_residue 57 = .ok (.goto (-53), 3) := by decide +kernel
theorem dX0_residue_60 : decode cX0_residue 60 = .ok (.iload_n 2, 1) := by decide +kernel
theorem dX0_residue_61 : decode cX0_residue 61 = .ok (.ireturn, 1) := by decide +kernel
set_option maxRecDepth 20000 in
theorem ggX0_isElement_X0_residue : GoodIn wsX0_isElement wsX0_residue := goodIn_r _ [6, 7, 8, 9, 5, 10, 11, 12, 13, 14, 15, 16, 17, 18, 19, 20, 21, 22, 23, 24, 25, 26, 27, 28, 29, 30, 31, 32, 33, 34] (by decide +kernel) (by decide +kernel)
set_option maxRecDepth 20000 in
theorem gX0_isElement_X0_residue : GoodIn wsX0_isElement (wsV RX0 100 RX0 yX0_residue wsX0_residue) := goodIn_app (goodIn_of _ (by decide +kernel)) ggX0_isElement_X0_residue
theorem dX0_isElement_0 : decode cX0_isElement 0 = .ok (.aload_n 0, 1) := by decide +kernel
theorem dX0_isElement_1 : decode cX0_isElement 1 = .ok (.iload_n 1, 1) := by decide +kernel
theorem dX0_isElement_2 : decode cX0_isElement 2 = .ok (.invokevirtual 100, 3) := by decide +kernel
theorem dX0_isElement_5 : decode cX0_isElement 5 = .ok (.aload_n 0, 1) := by decide +kernel
theorem dX0_isElement_6 : decode cX0_isElement 6 = .ok (.getfield 66, 3) := by decide +kernel
theorem dX0_isElement_9 : decode cX0_isElement 9 = .ok (.if_icmp .ne 7, 3) := by decide +kernel
theorem dX0_isElement_12 : decode cX0_isElement 12 = .ok (.iconst 1, 1) := by decide +kernel
theorem dX0_isElement_13 : decode cX0_isElement 13 = .ok (.goto 4, 3) := by decide +kernel
theorem dX0_isElement_16 : decode cX0_isElement 16 = .ok (.iconst 0, 1) := by decide +kernel
theorem dX0_isElement_17 : decode cX0_isElement 17 = .ok (.ireturn, 1) := by decide +kernel
set_option maxRecDepth 20000 in
theorem ggX0_extendBy_X0_listFilled : GoodIn wsX0_extendBy wsX0_listFilled := goodIn_r _ [7, 1, 8, 9, 10, 11, 6, 12, 13, 14, 15, 16, 17, 18, 19, 20, 21, 2, 49, 50, 51, 52, 53, 54, 55] (by decide +kernel) (by decide +kernel)
set_option maxRecDepth 20000 in
theorem gX0_extendBy_X0_listFilled : GoodIn wsX0_extendBy (wsV RX0 103 RX0 yX0_listFilled wsX0_listFilled) := goodIn_app (goodIn_of _ (by decide +kernel)) ggX0_extendBy_X0_listFilled
set_option maxRecDepth 20000 in
theorem ggX0_extendBy_X0_enter : GoodIn wsX0_extendBy wsX0_enter := goodIn_r _ [25, 8, 13, 14, 26, 27, 28, 6, 29, 30, 31, 32, 9, 10, 11, 12, 15, 16, 17, 33, 34, 35, 36, 37, 38, 39, 40, 18, 19, 20, 21, 1, 2, 49, 50, 51, 52, 53, 54, 55] (by decide +kernel) (by decide +kernel)
set_option maxRecDepth 20000 in
theorem gX0_extendBy_X0_enter : GoodIn wsX0_extendBy (wsV RX0 109 RX0 yX0_enter wsX0_enter) := goodIn_app (goodIn_of _ (by decide +kernel)) ggX0_extendBy_X0_enter
set_option maxRecDepth 20000 in
theorem ggX0_extendBy_X0_isFull : GoodIn wsX0_extendBy wsX0_isFull := goodIn_r _ [44, 1, 8, 49, 50, 51, 52, 53, 54, 55] (by decide +kernel) (by decide +kernel)
set_option maxRecDepth 20000 in
theorem gX0_extendBy_X0_isFull : GoodIn wsX0_extendBy (wsV RX0 112 RX0 yX0_isFull wsX0_isFull) := goodIn_app (goodIn_of _ (by decide +kernel)) ggX0_extendBy_X0_isFull
set_option maxRecDepth 20000 in
theorem ggX0_extendBy_X0_enterProduct : GoodIn wsX0_extendBy wsX0_enterProduct := goodIn_r _ [48, 13, 14, 37, 38, 39, 6, 40, 8, 30, 31, 32, 22, 23, 24, 25, 26, 27, 28, 29, 9, 10, 11, 12, 15, 16, 17, 33, 34, 35, 36, 18, 19, 20, 21, 1, 2, 49, 50, 51, 52, 53, 54, 55] (by decide +kernel) (by decide +kernel)
set_option maxRecDepth 20000 in
theorem gX0_extendBy_X0_enterProduct : GoodIn wsX0_extendBy (wsV RX0 116 RX0 yX0_enterProduct wsX0_enterProduct) := goodIn_app (goodIn_of _ (by decide +kernel)) ggX0_extendBy_X0_enterProduct
theorem dX0_extendBy_0 : decode cX0_extendBy 0 = .ok (.aload_n 0, 1) := by decide +kernel
theorem dX0_extendBy_1 : decode cX0_extendBy 1 = .ok (.invokevirtual 103, 3) := by decide +kernel
theorem dX0_extendBy_4 : decode cX0_extendBy 4 = .ok (.aload_n 0, 1) := by decide +kernel
theorem dX0_extendBy_5 : decode cX0_extendBy 5 = .ok (.getfield 106, 3) := by decide +kernel
theorem dX0_extendBy_8 : decode cX0_extendBy 8 = .ok (.istore_n 2, 1) := by decide +kernel
theorem dX0_extendBy_9 : decode cX0_extendBy 9 = .ok (.aload_n 0, 1) := by decide +kernel
theorem dX0_extendBy_10 : decode cX0_extendBy 10 = .ok (.iload_n 1, 1) := by decide +kernel
theorem dX0_extendBy_11 : decode cX0_extendBy 11 = .ok (.invokevirtual 109, 3) := by decide +kernel
theorem dX0_extendBy_14 : decode cX0_extendBy 14 = .ok (.iload_n 2, 1) := by decide +kernel
theorem dX0_extendBy_15 : decode cX0_extendBy 15 = .ok (.istore_n 3, 1) := by decide +kernel
theorem dX0_extendBy_16 : decode cX0_extendBy 16 = .ok (.iload_n 3, 1) := by decide +kernel
theorem dX0_extendBy_17 : decode cX0_extendBy 17 = .ok (.bipush 21, 2) := by decide +kernel
theorem dX0_extendBy_19 : decode cX0_extendBy 19 = .ok (.if_icmp .ge 74, 3) := by decide +kernel
theorem dX0_extendBy_22 : decode cX0_extendBy 22 = .ok (.iload_n 3, 1) := by decide +kernel
theorem dX0_extendBy_23 : decode cX0_extendBy 23 = .ok (.aload_n 0, 1) := by decide +kernel
theorem dX0_extendBy_24 : decode cX0_extendBy 24 = .ok (.getfield 106, 3) := by decide +kernel
theorem dX0_extendBy_27 : decode cX0_extendBy 27 = .ok (.if_icmp .ge 10, 3) := by decide +kernel
theorem dX0_extendBy_30 : decode cX0_extendBy 30 = .ok (.aload_n 0, 1) := by decide +kernel
theorem dX0_extendBy_31 : decode cX0_extendBy 31 = .ok (.invokevirtual 112, 3) := by decide +kernel
theorem dX0_extendBy_34 : decode cX0_extendBy 34 = .ok (.ifCond .eq 4, 3) := by decide +kernel
theorem dX0_extendBy_37 : decode cX0_extendBy 37 = .ok (.return_, 1) := by decide +kernel
theorem dX0_extendBy_38 : decode cX0_extendBy 38 = .ok (.iconst 0, 1) := by decide +kernel
theorem dX0_extendBy_39 : decode cX0_extendBy 39 = .ok (.istore 4, 2) := by decide +kernel
theorem dX0_extendBy_41 : decode cX0_extendBy 41 = .ok (.iload 4, 2) := by decide +kernel
theorem dX0_extendBy_43 : decode cX0_extendBy 43 = .ok (.iload_n 3, 1) := by decide +kernel
theorem dX0_extendBy_44 : decode cX0_extendBy 44 = .ok (.if_icmp .gt 43, 3) := by decide +kernel
theorem dX0_extendBy_47 : decode cX0_extendBy 47 = .ok (.aload_n 0, 1) := by decide +kernel
theorem dX0_extendBy_48 : decode cX0_extendBy 48 = .ok (.aload_n 0, 1) := by decide +kernel
theorem dX0_extendBy_49 : decode cX0_extendBy 49 = .ok (.getfield 18, 3) := by decide +kernel
theorem dX0_extendBy_52 : decode cX0_extendBy 52 = .ok (.iload_n 3, 1) := by decide +kernel
theorem dX0_extendBy_53 : decode cX0_extendBy 53 = .ok (.iaload, 1) := by decide +kernel
theorem dX0_extendBy_54 : decode cX0_extendBy 54 = .ok (.aload_n 0, 1) := by decide +kernel
theorem dX0_extendBy_55 : decode cX0_extendBy 55 = .ok (.getfield 18, 3) := by decide +kernel
theorem dX0_extendBy_58 : decode cX0_extendBy 58 = .ok (.iload 4, 2) := by decide +kernel
theorem dX0_extendBy_60 : decode cX0_extendBy 60 = .ok (.iaload, 1) := by decide +kernel
theorem dX0_extendBy_61 : decode cX0_extendBy 61 = .ok (.invokevirtual 116, 3) := by decide +kernel
theorem dX0_extendBy_64 : decode cX0_extendBy 64 = .ok (.aload_n 0, 1) := by decide +kernel
theorem dX0_extendBy_65 : decode cX0_extendBy 65 = .ok (.aload_n 0, 1) := by decide +kernel
theorem dX0_extendBy_66 : decode cX0_extendBy 66 = .ok (.getfield 18, 3) := by decide +kernel
theorem dX0_extendBy_69 : decode cX0_extendBy 69 = .ok (.iload 4, 2) := by decide +kernel
theorem dX0_extendBy_71 : decode cX0_extendBy 71 = .ok (.iaload, 1) := by decide +kernel
theorem dX0_extendBy_72 : decode cX0_extendBy 72 = .ok (.aload_n 0, 1) := by decide +kernel
theorem dX0_extendBy_73 : decode cX0_extendBy 73 = .ok (.getfield 18, 3) := by decide +kernel
theorem dX0_extendBy_76 : decode cX0_extendBy 76 = .ok (.iload_n 3, 1) := by decide +kernel
theorem dX0_extendBy_77 : decode cX0_extendBy 77 = .ok (.iaload, 1) := by decide +kernel
theorem dX0_extendBy_78 : decode cX0_extendBy 78 = .ok (.invokevirtual 116, 3) := by decide +kernel
theorem dX0_extendBy_81 : decode cX0_extendBy 81 = .ok (.iinc 4 1, 3) := by decide +kernel
theorem dX0_extendBy_84 : decode cX0_extendBy 84 = .ok (.goto (-43), 3) := by decide +kernel
theorem dX0_extendBy_87 : decode cX0_extendBy 87 = .ok (.iinc 3 1, 3) := by decide +kernel
theorem dX0_extendBy_90 : decode cX0_extendBy 90 = .ok (.goto (-74), 3) := by decide +kernel
theorem dX0_extendBy_93 : decode cX0_extendBy 93 = .ok (.return_, 1) := by decide +kernel
set_option maxRecDepth 20000 in
theorem ggX0_listFilled_X0_entry : GoodIn wsX0_listFilled wsX0_entry := goodIn_r _ [7, 8, 9, 10, 11, 6, 12, 18, 19, 20, 21, 22, 23, 24] (by decide +kernel) (by decide +kernel)
set_option maxRecDepth 20000 in
theorem gX0_listFilled_X0_entry : GoodIn wsX0_listFilled (wsV RX0 97 RX0 yX0_entry wsX0_entry) := goodIn_app (goodIn_of _ (by decide +kernel)) ggX0_listFilled_X0_entry
set_option maxRecDepth 20000 in
theorem ggX0_listFilled_X0_slotOf : GoodIn wsX0_listFilled wsX0_slotOf := goodIn_r _ [12] (by decide +kernel) (by decide +kernel)
set_option maxRecDepth 20000 in
theorem gX0_listFilled_X0_slotOf : GoodIn wsX0_listFilled (va_wsS RX0 91 yX0_slotOf wsX0_slotOf) := goodIn_app (goodIn_of _ (by decide +kernel)) ggX0_listFilled_X0_slotOf
set_option maxRecDepth 20000 in
theorem ggX0_listFilled_X0_noteFilled : GoodIn wsX0_listFilled wsX0_noteFilled := goodIn_r _ [16, 1, 17, 18, 19, 20, 21, 22, 23, 24] (by decide +kernel) (by decide +kernel)
set_option maxRecDepth 20000 in
theorem gX0_listFilled_X0_noteFilled : GoodIn wsX0_listFilled (wsV RX0 120 RX0 yX0_noteFilled wsX0_noteFilled) := goodIn_app (goodIn_of _ (by decide +kernel)) ggX0_listFilled_X0_noteFilled
theorem dX0_listFilled_0 : decode cX0_listFilled 0 = .ok (.aload_n 0, 1) := by decide +kernel
theorem dX0_listFilled_1 : decode cX0_listFilled 1 = .ok (.iconst 0, 1) := by decide +kernel
theorem dX0_listFilled_2 : decode cX0_listFilled 2 = .ok (.putfield 106, 3) := by decide +kernel
theorem dX0_listFilled_5 : decode cX0_listFilled 5 = .ok (.iconst 0, 1) := by decide +kernel
theorem dX0_listFilled_6 : decode cX0_listFilled 6 = .ok (.istore_n 1, 1) := by decide +kernel
theorem dX0_listFilled_7 : decode cX0_listFilled 7 = .ok (.iload_n 1, 1) := by decide +kernel
theorem dX0_listFilled_8 : decode cX0_listFilled 8 = .ok (.aload_n 0, 1) := by decide +kernel
theorem dX0_listFilled_9 : decode cX0_listFilled 9 = .ok (.getfield 25, 3) := by decide +kernel
theorem dX0_listFilled_12 : decode cX0_listFilled 12 = .ok (.if_icmp .ge 46, 3) := by decide +kernel
theorem dX0_listFilled_15 : decode cX0_listFilled 15 = .ok (.iload_n 1, 1) := by decide +kernel
theorem dX0_listFilled_16 : decode cX0_listFilled 16 = .ok (.iconst 1, 1) := by decide +kernel
theorem dX0_listFilled_17 : decode cX0_listFilled 17 = .ok (.iadd, 1) := by decide +kernel
theorem dX0_listFilled_18 : decode cX0_listFilled 18 = .ok (.istore_n 2, 1) := by decide +kernel
theorem dX0_listFilled_19 : decode cX0_listFilled 19 = .ok (.iload_n 2, 1) := by decide +kernel
theorem dX0_listFilled_20 : decode cX0_listFilled 20 = .ok (.aload_n 0, 1) := by decide +kernel
theorem dX0_listFilled_21 : decode cX0_listFilled 21 = .ok (.getfield 25, 3) := by decide +kernel
theorem dX0_listFilled_24 : decode cX0_listFilled 24 = .ok (.if_icmp .ge 28, 3) := by decide +kernel
theorem dX0_listFilled_27 : decode cX0_listFilled 27 = .ok (.aload_n 0, 1) := by decide +kernel
theorem dX0_listFilled_28 : decode cX0_listFilled 28 = .ok (.iload_n 1, 1) := by decide +kernel
theorem dX0_listFilled_29 : decode cX0_listFilled 29 = .ok (.iload_n 2, 1) := by decide +kernel
theorem dX0_listFilled_30 : decode cX0_listFilled 30 = .ok (.invokevirtual 97, 3) := by decide +kernel
theorem dX0_listFilled_33 : decode cX0_listFilled 33 = .ok (.iconst (-1), 1) := by decide +kernel
theorem dX0_listFilled_34 : decode cX0_listFilled 34 = .ok (.if_icmp .eq 12, 3) := by decide +kernel
theorem dX0_listFilled_37 : decode cX0_listFilled 37 = .ok (.aload_n 0, 1) := by decide +kernel
theorem dX0_listFilled_38 : decode cX0_listFilled 38 = .ok (.iload_n 1, 1) := by decide +kernel
theorem dX0_listFilled_39 : decode cX0_listFilled 39 = .ok (.iload_n 2, 1) := by decide +kernel
theorem dX0_listFilled_40 : decode cX0_listFilled 40 = .ok (.invokestatic 91, 3) := by decide +kernel
theorem dX0_listFilled_43 : decode cX0_listFilled 43 = .ok (.invokevirtual 120, 3) := by decide +kernel
theorem dX0_listFilled_46 : decode cX0_listFilled 46 = .ok (.iinc 2 1, 3) := by decide +kernel
theorem dX0_listFilled_49 : decode cX0_listFilled 49 = .ok (.goto (-30), 3) := by decide +kernel
theorem dX0_listFilled_52 : decode cX0_listFilled 52 = .ok (.iinc 1 1, 3) := by decide +kernel
theorem dX0_listFilled_55 : decode cX0_listFilled 55 = .ok (.goto (-48), 3) := by decide +kernel
theorem dX0_listFilled_58 : decode cX0_listFilled 58 = .ok (.return_, 1) := by decide +kernel
theorem dX0_noteFilled_0 : decode cX0_noteFilled 0 = .ok (.aload_n 0, 1) := by decide +kernel
theorem dX0_noteFilled_1 : decode cX0_noteFilled 1 = .ok (.getfield 106, 3) := by decide +kernel
theorem dX0_noteFilled_4 : decode cX0_noteFilled 4 = .ok (.bipush 21, 2) := by decide +kernel
theorem dX0_noteFilled_6 : decode cX0_noteFilled 6 = .ok (.if_icmp .ge 23, 3) := by decide +kernel
theorem dX0_noteFilled_9 : decode cX0_noteFilled 9 = .ok (.aload_n 0, 1) := by decide +kernel
theorem dX0_noteFilled_10 : decode cX0_noteFilled 10 = .ok (.getfield 18, 3) := by decide +kernel
theorem dX0_noteFilled_13 : decode cX0_noteFilled 13 = .ok (.aload_n 0, 1) := by decide +kernel
theorem dX0_noteFilled_14 : decode cX0_noteFilled 14 = .ok (.getfield 106, 3) := by decide +kernel
theorem dX0_noteFilled_17 : decode cX0_noteFilled 17 = .ok (.iload_n 1, 1) := by decide +kernel
theorem dX0_noteFilled_18 : decode cX0_noteFilled 18 = .ok (.iastore, 1) := by decide +kernel
theorem dX0_noteFilled_19 : decode cX0_noteFilled 19 = .ok (.aload_n 0, 1) := by decide +kernel
theorem dX0_noteFilled_20 : decode cX0_noteFilled 20 = .ok (.dup, 1) := by decide +kernel
theorem dX0_noteFilled_21 : decode cX0_noteFilled 21 = .ok (.getfield 106, 3) := by decide +kernel
theorem dX0_noteFilled_24 : decode cX0_noteFilled 24 = .ok (.iconst 1, 1) := by decide +kernel
theorem dX0_noteFilled_25 : decode cX0_noteFilled 25 = .ok (.iadd, 1) := by decide +kernel
theorem dX0_noteFilled_26 : decode cX0_noteFilled 26 = .ok (.putfield 106, 3) := by decide +kernel
theorem dX0_noteFilled_29 : decode cX0_noteFilled 29 = .ok (.return_, 1) := by decide +kernel
theorem dX0_isFull_0 : decode cX0_isFull 0 = .ok (.aload_n 0, 1) := by decide +kernel
theorem dX0_isFull_1 : decode cX0_isFull 1 = .ok (.getfield 106, 3) := by decide +kernel
theorem dX0_isFull_4 : decode cX0_isFull 4 = .ok (.aload_n 0, 1) := by decide +kernel
theorem dX0_isFull_5 : decode cX0_isFull 5 = .ok (.getfield 25, 3) := by decide +kernel
theorem dX0_isFull_8 : decode cX0_isFull 8 = .ok (.aload_n 0, 1) := by decide +kernel
theorem dX0_isFull_9 : decode cX0_isFull 9 = .ok (.getfield 25, 3) := by decide +kernel
theorem dX0_isFull_12 : decode cX0_isFull 12 = .ok (.iconst 1, 1) := by decide +kernel
theorem dX0_isFull_13 : decode cX0_isFull 13 = .ok (.isub, 1) := by decide +kernel
theorem dX0_isFull_14 : decode cX0_isFull 14 = .ok (.imul, 1) := by decide +kernel
theorem dX0_isFull_15 : decode cX0_isFull 15 = .ok (.iconst 2, 1) := by decide +kernel
theorem dX0_isFull_16 : decode cX0_isFull 16 = .ok (.idiv, 1) := by decide +kernel
theorem dX0_isFull_17 : decode cX0_isFull 17 = .ok (.if_icmp .lt 7, 3) := by decide +kernel
theorem dX0_isFull_20 : decode cX0_isFull 20 = .ok (.iconst 1, 1) := by decide +kernel
theorem dX0_isFull_21 : decode cX0_isFull 21 = .ok (.goto 4, 3) := by decide +kernel
theorem dX0_isFull_24 : decode cX0_isFull 24 = .ok (.iconst 0, 1) := by decide +kernel
theorem dX0_isFull_25 : decode cX0_isFull 25 = .ok (.ireturn, 1) := by decide +kernel
set_option maxRecDepth 20000 in
theorem ggX0_enterProduct_X0_compose : GoodIn wsX0_enterProduct wsX0_compose := goodIn_r _ [7, 8, 9, 10, 6, 11, 37, 38, 39, 40, 41, 42, 43] (by decide +kernel) (by decide +kernel)
set_option maxRecDepth 20000 in
theorem gX0_enterProduct_X0_compose : GoodIn wsX0_enterProduct (wsV RX0 45 RX0 yX0_compose wsX0_compose) := goodIn_app (goodIn_of _ (by decide +kernel)) ggX0_enterProduct_X0_compose
set_option maxRecDepth 20000 in
theorem ggX0_enterProduct_X0_enter : GoodIn wsX0_enterProduct wsX0_enter := goodIn_r _ [15, 8, 1, 2, 16, 17, 18, 6, 19, 9, 10, 11, 20, 21, 22, 23, 24, 25, 26, 27, 28, 29, 30, 3, 4, 5, 7, 31, 32, 33, 34, 35, 36, 37, 38, 39, 40, 41, 42, 43] (by decide +kernel) (by decide +kernel)
set_option maxRecDepth 20000 in
theorem gX0_enterProduct_X0_enter : GoodIn wsX0_enterProduct (wsV RX0 109 RX0 yX0_enter wsX0_enter) := goodIn_app (goodIn_of _ (by decide +kernel)) ggX0_enterProduct_X0_enter
theorem dX0_enterProduct_0 : decode cX0_enterProduct 0 = .ok (.aload_n 0, 1) := by decide +kernel
theorem dX0_enterProduct_1 : decode cX0_enterProduct 1 = .ok (.getfield 15, 3) := by decide +kernel
theorem dX0_enterProduct_4 : decode cX0_enterProduct 4 = .ok (.aload_n 0, 1) := by decide +kernel
theorem dX0_enterProduct_5 : decode cX0_enterProduct 5 = .ok (.getfield 33, 3) := by decide +kernel
theorem dX0_enterProduct_8 : decode cX0_enterProduct 8 = .ok (.aaload, 1) := by decide +kernel
theorem dX0_enterProduct_9 : decode cX0_enterProduct 9 = .ok (.astore_n 3, 1) := by decide +kernel
theorem dX0_enterProduct_10 : decode cX0_enterProduct 10 = .ok (.iload_n 1, 1) := by decide +kernel
theorem dX0_enterProduct_11 : decode cX0_enterProduct 11 = .ok (.bipush 8, 2) := by decide +kernel
theorem dX0_enterProduct_13 : decode cX0_enterProduct 13 = .ok (.idiv, 1) := by decide +kernel
theorem dX0_enterProduct_14 : decode cX0_enterProduct 14 = .ok (.iload_n 2, 1) := by decide +kernel
theorem dX0_enterProduct_15 : decode cX0_enterProduct 15 = .ok (.bipush 8, 2) := by decide +kernel
theorem dX0_enterProduct_17 : decode cX0_enterProduct 17 = .ok (.idiv, 1) := by decide +kernel
theorem dX0_enterProduct_18 : decode cX0_enterProduct 18 = .ok (.if_icmp .gt 17, 3) := by decide +kernel
theorem dX0_enterProduct_21 : decode cX0_enterProduct 21 = .ok (.aload_n 0, 1) := by decide +kernel
theorem dX0_enterProduct_22 : decode cX0_enterProduct 22 = .ok (.aload_n 0, 1) := by decide +kernel
theorem dX0_enterProduct_23 : decode cX0_enterProduct 23 = .ok (.aload_n 3, 1) := by decide +kernel
theorem dX0_enterProduct_24 : decode cX0_enterProduct 24 = .ok (.iload_n 1, 1) := by decide +kernel
theorem dX0_enterProduct_25 : decode cX0_enterProduct 25 = .ok (.iaload, 1) := by decide +kernel
theorem dX0_enterProduct_26 : decode cX0_enterProduct 26 = .ok (.aload_n 3, 1) := by decide +kernel
theorem dX0_enterProduct_27 : decode cX0_enterProduct 27 = .ok (.iload_n 2, 1) := by decide +kernel
theorem dX0_enterProduct_28 : decode cX0_enterProduct 28 = .ok (.iaload, 1) := by decide +kernel
theorem dX0_enterProduct_29 : decode cX0_enterProduct 29 = .ok (.invokevirtual 45, 3) := by decide +kernel
theorem dX0_enterProduct_32 : decode cX0_enterProduct 32 = .ok (.invokevirtual 109, 3) := by decide +kernel
theorem dX0_enterProduct_35 : decode cX0_enterProduct 35 = .ok (.return_, 1) := by decide +kernel
set_option maxRecDepth 20000 in
theorem ggX0_enter_X0_residue : GoodIn wsX0_enter wsX0_residue := goodIn_r _ [8, 1, 9, 10, 7, 11, 12, 13, 14, 15, 2, 3, 16, 17, 18, 19, 20, 21, 22, 23, 24, 25, 26, 33, 34, 35, 36, 37, 38, 39] (by decide +kernel) (by decide +kernel)
set_option maxRecDepth 20000 in
theorem gX0_enter_X0_residue : GoodIn wsX0_enter (wsV RX0 100 RX0 yX0_residue wsX0_residue) := goodIn_app (goodIn_of _ (by decide +kernel)) ggX0_enter_X0_residue
set_option maxRecDepth 20000 in
theorem ggX0_enter_X0_image : GoodIn wsX0_enter wsX0_image := goodIn_r _ [11] (by decide +kernel) (by decide +kernel)
set_option maxRecDepth 20000 in
theorem gX0_enter_X0_image : GoodIn wsX0_enter (va_wsS RX0 94 yX0_image wsX0_image) := goodIn_app (goodIn_of _ (by decide +kernel)) ggX0_enter_X0_image
set_option maxRecDepth 20000 in
theorem ggX0_enter_X0_slotOf : GoodIn wsX0_enter wsX0_slotOf := goodIn_r _ [18] (by decide +kernel) (by decide +kernel)
set_option maxRecDepth 20000 in
theorem gX0_enter_X0_slotOf : GoodIn wsX0_enter (va_wsS RX0 91 yX0_slotOf wsX0_slotOf) := goodIn_app (goodIn_of _ (by decide +kernel)) ggX0_enter_X0_slotOf
set_option maxRecDepth 20000 in
theorem ggX0_enter_X0_noteFilled : GoodIn wsX0_enter wsX0_noteFilled := goodIn_r _ [30, 31, 32, 33, 34, 35, 36, 37, 38, 39] (by decide +kernel) (by decide +kernel)
set_option maxRecDepth 20000 in
theorem gX0_enter_X0_noteFilled : GoodIn wsX0_enter (wsV RX0 120 RX0 yX0_noteFilled wsX0_noteFilled) := goodIn_app (goodIn_of _ (by decide +kernel)) ggX0_enter_X0_noteFilled
theorem dX0_enter_0 : decode cX0_enter 0 = .ok (.aload_n 0, 1) := by decide +kernel
theorem dX0_enter_1 : decode cX0_enter 1 = .ok (.iload_n 1, 1) := by decide +kernel
theorem dX0_enter_2 : decode cX0_enter 2 = .ok (.invokevirtual 100, 3) := by decide +kernel
theorem dX0_enter_5 : decode cX0_enter 5 = .ok (.istore_n 2, 1) := by decide +kernel
theorem dX0_enter_6 : decode cX0_enter 6 = .ok (.iconst 0, 1) := by decide +kernel
theorem dX0_enter_7 : decode cX0_enter 7 = .ok (.istore_n 3, 1) := by decide +kernel
theorem dX0_enter_8 : decode cX0_enter 8 = .ok (.iload_n 3, 1) := by decide +kernel
theorem dX0_enter_9 : decode cX0_enter 9 = .ok (.aload_n 0, 1) := by decide +kernel
theorem dX0_enter_10 : decode cX0_enter 10 = .ok (.getfield 25, 3) := by decide +kernel
theorem dX0_enter_13 : decode cX0_enter 13 = .ok (.if_icmp .ge 50, 3) := by decide +kernel
theorem dX0_enter_16 : decode cX0_enter 16 = .ok (.iload_n 2, 1) := by decide +kernel
theorem dX0_enter_17 : decode cX0_enter 17 = .ok (.iload_n 3, 1) := by decide +kernel
theorem dX0_enter_18 : decode cX0_enter 18 = .ok (.invokestatic 94, 3) := by decide +kernel
theorem dX0_enter_21 : decode cX0_enter 21 = .ok (.istore 4, 2) := by decide +kernel
theorem dX0_enter_23 : decode cX0_enter 23 = .ok (.iload 4, 2) := by decide +kernel
theorem dX0_enter_25 : decode cX0_enter 25 = .ok (.iload_n 3, 1) := by decide +kernel
theorem dX0_enter_26 : decode cX0_enter 26 = .ok (.if_icmp .eq 31, 3) := by decide +kernel
theorem dX0_enter_29 : decode cX0_enter 29 = .ok (.aload_n 0, 1) := by decide +kernel
theorem dX0_enter_30 : decode cX0_enter 30 = .ok (.getfield 15, 3) := by decide +kernel
theorem dX0_enter_33 : decode cX0_enter 33 = .ok (.aload_n 0, 1) := by decide +kernel
theorem dX0_enter_34 : decode cX0_enter 34 = .ok (.getfield 33, 3) := by decide +kernel
theorem dX0_enter_37 : decode cX0_enter 37 = .ok (.aaload, 1) := by decide +kernel
theorem dX0_enter_38 : decode cX0_enter 38 = .ok (.iload_n 3, 1) := by decide +kernel
theorem dX0_enter_39 : decode cX0_enter 39 = .ok (.iload 4, 2) := by decide +kernel
theorem dX0_enter_41 : decode cX0_enter 41 = .ok (.invokestatic 91, 3) := by decide +kernel
theorem dX0_enter_44 : decode cX0_enter 44 = .ok (.iload_n 2, 1) := by decide +kernel
theorem dX0_enter_45 : decode cX0_enter 45 = .ok (.iastore, 1) := by decide +kernel
theorem dX0_enter_46 : decode cX0_enter 46 = .ok (.aload_n 0, 1) := by decide +kernel
theorem dX0_enter_47 : decode cX0_enter 47 = .ok (.iload_n 3, 1) := by decide +kernel
theorem dX0_enter_48 : decode cX0_enter 48 = .ok (.iload 4, 2) := by decide +kernel
theorem dX0_enter_50 : decode cX0_enter 50 = .ok (.invokestatic 91, 3) := by decide +kernel
theorem dX0_enter_53 : decode cX0_enter 53 = .ok (.invokevirtual 120, 3) := by decide +kernel
theorem dX0_enter_56 : decode cX0_enter 56 = .ok (.return_, 1) := by decide +kernel
theorem dX0_enter_57 : decode cX0_enter 57 = .ok (.iinc 3 1, 3) := by decide +kernel
theorem dX0_enter_60 : decode cX0_enter 60 = .ok (.goto (-52), 3) := by decide +kernel
theorem dX0_enter_63 : decode cX0_enter 63 = .ok (.return_, 1) := by decide +kernel
set_option maxRecDepth 20000 in
theorem ggX0_inCoset_X0_fixersOfFirst : GoodIn wsX0_inCoset wsX0_fixersOfFirst := goodIn_r _ [6, 1, 7, 8, 9, 5, 10, 11, 12, 13, 14, 15, 27, 28, 29, 30, 31, 32, 33] (by decide +kernel) (by decide +kernel)
set_option maxRecDepth 20000 in
theorem gX0_inCoset_X0_fixersOfFirst : GoodIn wsX0_inCoset (wsV RX0 53 RX0 yX0_fixersOfFirst wsX0_fixersOfFirst) := goodIn_app (goodIn_of _ (by decide +kernel)) ggX0_inCoset_X0_fixersOfFirst
set_option maxRecDepth 20000 in
theorem ggX0_inCoset_X0_invert : GoodIn wsX0_inCoset wsX0_invert := goodIn_r _ [19, 1, 20, 21, 5, 22, 27, 28, 29, 30, 31, 32, 33] (by decide +kernel) (by decide +kernel)
set_option maxRecDepth 20000 in
theorem gX0_inCoset_X0_invert : GoodIn wsX0_inCoset (wsV RX0 49 RX0 yX0_invert wsX0_invert) := goodIn_app (goodIn_of _ (by decide +kernel)) ggX0_inCoset_X0_invert
set_option maxRecDepth 20000 in
theorem ggX0_inCoset_X0_image : GoodIn wsX0_inCoset wsX0_image := goodIn_r _ [22] (by decide +kernel) (by decide +kernel)
set_option maxRecDepth 20000 in
theorem gX0_inCoset_X0_image : GoodIn wsX0_inCoset (va_wsS RX0 94 yX0_image wsX0_image) := goodIn_app (goodIn_of _ (by decide +kernel)) ggX0_inCoset_X0_image
set_option maxRecDepth 20000 in
theorem ggX0_inCoset_X0_entry : GoodIn wsX0_inCoset wsX0_entry := goodIn_r _ [10, 11, 12, 13, 14, 5, 15, 27, 28, 29, 30, 31, 32, 33] (by decide +kernel) (by decide +kernel)
set_option maxRecDepth 20000 in
theorem gX0_inCoset_X0_entry : GoodIn wsX0_inCoset (wsV RX0 97 RX0 yX0_entry wsX0_entry) := goodIn_app (goodIn_of _ (by decide +kernel)) ggX0_inCoset_X0_entry
set_option maxRecDepth 20000 in
theorem ggX0_inCoset_X0_compose : GoodIn wsX0_inCoset wsX0_compose := goodIn_r _ [26, 1, 20, 21, 5, 22, 27, 28, 29, 30, 31, 32, 33] (by decide +kernel) (by decide +kernel)
set_option maxRecDepth 20000 in
theorem gX0_inCoset_X0_compose : GoodIn wsX0_inCoset (wsV RX0 45 RX0 yX0_compose wsX0_compose) := goodIn_app (goodIn_of _ (by decide +kernel)) ggX0_inCoset_X0_compose
theorem dX0_inCoset_0 : decode cX0_inCoset 0 = .ok (.iload_n 1, 1) := by decide +kernel
theorem dX0_inCoset_1 : decode cX0_inCoset 1 = .ok (.istore_n 3, 1) := by decide +kernel
theorem dX0_inCoset_2 : decode cX0_inCoset 2 = .ok (.iload_n 2, 1) := by decide +kernel
theorem dX0_inCoset_3 : decode cX0_inCoset 3 = .ok (.istore 4, 2) := by decide +kernel
theorem dX0_inCoset_5 : decode cX0_inCoset 5 = .ok (.iconst 0, 1) := by decide +kernel
theorem dX0_inCoset_6 : decode cX0_inCoset 6 = .ok (.istore 5, 2) := by decide +kernel
theorem dX0_inCoset_8 : decode cX0_inCoset 8 = .ok (.iload 5, 2) := by decide +kernel
theorem dX0_inCoset_10 : decode cX0_inCoset 10 = .ok (.aload_n 0, 1) := by decide +kernel
theorem dX0_inCoset_11 : decode cX0_inCoset 11 = .ok (.getfield 25, 3) := by decide +kernel
theorem dX0_inCoset_14 : decode cX0_inCoset 14 = .ok (.if_icmp .ge 93, 3) := by decide +kernel
theorem dX0_inCoset_17 : decode cX0_inCoset 17 = .ok (.aload_n 0, 1) := by decide +kernel
theorem dX0_inCoset_18 : decode cX0_inCoset 18 = .ok (.iload 5, 2) := by decide +kernel
theorem dX0_inCoset_20 : decode cX0_inCoset 20 = .ok (.iconst 1, 1) := by decide +kernel
theorem dX0_inCoset_21 : decode cX0_inCoset 21 = .ok (.iadd, 1) := by decide +kernel
theorem dX0_inCoset_22 : decode cX0_inCoset 22 = .ok (.invokevirtual 53, 3) := by decide +kernel
theorem dX0_inCoset_25 : decode cX0_inCoset 25 = .ok (.istore 6, 2) := by decide +kernel
theorem dX0_inCoset_27 : decode cX0_inCoset 27 = .ok (.aload_n 0, 1) := by decide +kernel
theorem dX0_inCoset_28 : decode cX0_inCoset 28 = .ok (.iload_n 3, 1) := by decide +kernel
theorem dX0_inCoset_29 : decode cX0_inCoset 29 = .ok (.invokevirtual 49, 3) := by decide +kernel
theorem dX0_inCoset_32 : decode cX0_inCoset 32 = .ok (.istore 7, 2) := by decide +kernel
theorem dX0_inCoset_34 : decode cX0_inCoset 34 = .ok (.iconst 0, 1) := by decide +kernel
theorem dX0_inCoset_35 : decode cX0_inCoset 35 = .ok (.istore 8, 2) := by decide +kernel
theorem dX0_inCoset_37 : decode cX0_inCoset 37 = .ok (.iload 8, 2) := by decide +kernel
theorem dX0_inCoset_39 : decode cX0_inCoset 39 = .ok (.aload_n 0, 1) := by decide +kernel
theorem dX0_inCoset_40 : decode cX0_inCoset 40 = .ok (.getfield 25, 3) := by decide +kernel
theorem dX0_inCoset_43 : decode cX0_inCoset 43 = .ok (.if_icmp .ge 58, 3) := by decide +kernel
theorem dX0_inCoset_46 : decode cX0_inCoset 46 = .ok (.aload_n 0, 1) := by decide +kernel
theorem dX0_inCoset_47 : decode cX0_inCoset 47 = .ok (.iload 5, 2) := by decide +kernel
theorem dX0_inCoset_49 : decode cX0_inCoset 49 = .ok (.iload 7, 2) := by decide +kernel
theorem dX0_inCoset_51 : decode cX0_inCoset 51 = .ok (.iload 8, 2) := by decide +kernel
theorem dX0_inCoset_53 : decode cX0_inCoset 53 = .ok (.invokestatic 94, 3) := by decide +kernel
theorem dX0_inCoset_56 : decode cX0_inCoset 56 = .ok (.invokevirtual 97, 3) := by decide +kernel
theorem dX0_inCoset_59 : decode cX0_inCoset 59 = .ok (.istore 9, 2) := by decide +kernel
theorem dX0_inCoset_61 : decode cX0_inCoset 61 = .ok (.iload 9, 2) := by decide +kernel
theorem dX0_inCoset_63 : decode cX0_inCoset 63 = .ok (.iconst (-1), 1) := by decide +kernel
theorem dX0_inCoset_64 : decode cX0_inCoset 64 = .ok (.if_icmp .ne 6, 3) := by decide +kernel
theorem dX0_inCoset_67 : decode cX0_inCoset 67 = .ok (.goto 28, 3) := by decide +kernel
theorem dX0_inCoset_70 : decode cX0_inCoset 70 = .ok (.iload 4, 2) := by decide +kernel
theorem dX0_inCoset_72 : decode cX0_inCoset 72 = .ok (.iload 6, 2) := by decide +kernel
theorem dX0_inCoset_74 : decode cX0_inCoset 74 = .ok (.if_icmp .ge 14, 3) := by decide +kernel
theorem dX0_inCoset_77 : decode cX0_inCoset 77 = .ok (.aload_n 0, 1) := by decide +kernel
theorem dX0_inCoset_78 : decode cX0_inCoset 78 = .ok (.iload 9, 2) := by decide +kernel
theorem dX0_inCoset_80 : decode cX0_inCoset 80 = .ok (.iload_n 3, 1) := by decide +kernel
theorem dX0_inCoset_81 : decode cX0_inCoset 81 = .ok (.invokevirtual 45, 3) := by decide +kernel
theorem dX0_inCoset_84 : decode cX0_inCoset 84 = .ok (.istore_n 3, 1) := by decide +kernel
theorem dX0_inCoset_85 : decode cX0_inCoset 85 = .ok (.goto 16, 3) := by decide +kernel
theorem dX0_inCoset_88 : decode cX0_inCoset 88 = .ok (.iload 4, 2) := by decide +kernel
theorem dX0_inCoset_90 : decode cX0_inCoset 90 = .ok (.iload 6, 2) := by decide +kernel
theorem dX0_inCoset_92 : decode cX0_inCoset 92 = .ok (.isub, 1) := by decide +kernel
theorem dX0_inCoset_93 : decode cX0_inCoset 93 = .ok (.istore 4, 2) := by decide +kernel
theorem dX0_inCoset_95 : decode cX0_inCoset 95 = .ok (.iinc 8 1, 3) := by decide +kernel
theorem dX0_inCoset_98 : decode cX0_inCoset 98 = .ok (.goto (-61), 3) := by decide +kernel
theorem dX0_inCoset_101 : decode cX0_inCoset 101 = .ok (.iinc 5 1, 3) := by decide +kernel
theorem dX0_inCoset_104 : decode cX0_inCoset 104 = .ok (.goto (-96), 3) := by decide +kernel
theorem dX0_inCoset_107 : decode cX0_inCoset 107 = .ok (.iload_n 3, 1) := by decide +kernel
theorem dX0_inCoset_108 : decode cX0_inCoset 108 = .ok (.ireturn, 1) := by decide +kernel
set_option maxRecDepth 20000 in
theorem ggX0_elementsBefore_X0_image : GoodIn wsX0_elementsBefore wsX0_image := goodIn_r _ [6] (by decide +kernel) (by decide +kernel)
set_option maxRecDepth 20000 in
theorem gX0_elementsBefore_X0_image : GoodIn wsX0_elementsBefore (va_wsS RX0 94 yX0_image wsX0_image) := goodIn_app (goodIn_of _ (by decide +kernel)) ggX0_elementsBefore_X0_image
set_option maxRecDepth 20000 in
theorem ggX0_elementsBefore_X0_entriesBelow : GoodIn wsX0_elementsBefore wsX0_entriesBelow := goodIn_r _ [10, 2, 11, 12, 13, 5, 14, 15, 16, 17, 18, 19, 3, 4, 6, 32, 33, 34, 35, 36, 37, 38] (by decide +kernel) (by decide +kernel)
set_option maxRecDepth 20000 in
theorem gX0_elementsBefore_X0_entriesBelow : GoodIn wsX0_elementsBefore (wsV RX0 123 RX0 yX0_entriesBelow wsX0_entriesBelow) := goodIn_app (goodIn_of _ (by decide +kernel)) ggX0_elementsBefore_X0_entriesBelow
set_option maxRecDepth 20000 in
theorem ggX0_elementsBefore_X0_fixersOfFirst : GoodIn wsX0_elementsBefore wsX0_fixersOfFirst := goodIn_r _ [23, 2, 11, 12, 13, 5, 14, 15, 16, 17, 18, 19, 32, 33, 34, 35, 36, 37, 38] (by decide +kernel) (by decide +kernel)
set_option maxRecDepth 20000 in
theorem gX0_elementsBefore_X0_fixersOfFirst : GoodIn wsX0_elementsBefore (wsV RX0 53 RX0 yX0_fixersOfFirst wsX0_fixersOfFirst) := goodIn_app (goodIn_of _ (by decide +kernel)) ggX0_elementsBefore_X0_fixersOfFirst
set_option maxRecDepth 20000 in
theorem ggX0_elementsBefore_X0_invert : GoodIn wsX0_elementsBefore wsX0_invert := goodIn_r _ [27, 2, 3, 4, 5, 6, 32, 33, 34, 35, 36, 37, 38] (by decide +kernel) (by decide +kernel)
set_option maxRecDepth 20000 in
theorem gX0_elementsBefore_X0_invert : GoodIn wsX0_elementsBefore (wsV RX0 49 RX0 yX0_invert wsX0_invert) := goodIn_app (goodIn_of _ (by decide +kernel)) ggX0_elementsBefore_X0_invert
set_option maxRecDepth 20000 in
theorem ggX0_elementsBefore_X0_entry : GoodIn wsX0_elementsBefore wsX0_entry := goodIn_r _ [14, 15, 16, 17, 18, 5, 19, 32, 33, 34, 35, 36, 37, 38] (by decide +kernel) (by decide +kernel)
set_option maxRecDepth 20000 in
theorem gX0_elementsBefore_X0_entry : GoodIn wsX0_elementsBefore (wsV RX0 97 RX0 yX0_entry wsX0_entry) := goodIn_app (goodIn_of _ (by decide +kernel)) ggX0_elementsBefore_X0_entry
set_option maxRecDepth 20000 in
theorem ggX0_elementsBefore_X0_compose : GoodIn wsX0_elementsBefore wsX0_compose := goodIn_r _ [31, 2, 3, 4, 5, 6, 32, 33, 34, 35, 36, 37, 38] (by decide +kernel) (by decide +kernel)
set_option maxRecDepth 20000 in
theorem gX0_elementsBefore_X0_compose : GoodIn wsX0_elementsBefore (wsV RX0 45 RX0 yX0_compose wsX0_compose) := goodIn_app (goodIn_of _ (by decide +kernel)) ggX0_elementsBefore_X0_compose
theorem dX0_elementsBefore_0 : decode cX0_elementsBefore 0 = .ok (.iconst 0, 1) := by decide +kernel
theorem dX0_elementsBefore_1 : decode cX0_elementsBefore 1 = .ok (.istore_n 2, 1) := by decide +kernel
theorem dX0_elementsBefore_2 : decode cX0_elementsBefore 2 = .ok (.aload_n 0, 1) := by decide +kernel
theorem dX0_elementsBefore_3 : decode cX0_elementsBefore 3 = .ok (.getfield 66, 3) := by decide +kernel
theorem dX0_elementsBefore_6 : decode cX0_elementsBefore 6 = .ok (.istore_n 3, 1) := by decide +kernel
theorem dX0_elementsBefore_7 : decode cX0_elementsBefore 7 = .ok (.iconst 0, 1) := by decide +kernel
theorem dX0_elementsBefore_8 : decode cX0_elementsBefore 8 = .ok (.istore 4, 2) := by decide +kernel
theorem dX0_elementsBefore_10 : decode cX0_elementsBefore 10 = .ok (.iload 4, 2) := by decide +kernel
theorem dX0_elementsBefore_12 : decode cX0_elementsBefore 12 = .ok (.aload_n 0, 1) := by decide +kernel
theorem dX0_elementsBefore_13 : decode cX0_elementsBefore 13 = .ok (.getfield 25, 3) := by decide +kernel
theorem dX0_elementsBefore_16 : decode cX0_elementsBefore 16 = .ok (.if_icmp .ge 60, 3) := by decide +kernel
theorem dX0_elementsBefore_19 : decode cX0_elementsBefore 19 = .ok (.iload_n 1, 1) := by decide +kernel
theorem dX0_elementsBefore_20 : decode cX0_elementsBefore 20 = .ok (.iload 4, 2) := by decide +kernel
theorem dX0_elementsBefore_22 : decode cX0_elementsBefore 22 = .ok (.invokestatic 94, 3) := by decide +kernel
theorem dX0_elementsBefore_25 : decode cX0_elementsBefore 25 = .ok (.istore 5, 2) := by decide +kernel
theorem dX0_elementsBefore_27 : decode cX0_elementsBefore 27 = .ok (.iload_n 2, 1) := by decide +kernel
theorem dX0_elementsBefore_28 : decode cX0_elementsBefore 28 = .ok (.aload_n 0, 1) := by decide +kernel
theorem dX0_elementsBefore_29 : decode cX0_elementsBefore 29 = .ok (.iload 4, 2) := by decide +kernel
theorem dX0_elementsBefore_31 : decode cX0_elementsBefore 31 = .ok (.iload_n 3, 1) := by decide +kernel
theorem dX0_elementsBefore_32 : decode cX0_elementsBefore 32 = .ok (.iload 5, 2) := by decide +kernel
theorem dX0_elementsBefore_34 : decode cX0_elementsBefore 34 = .ok (.invokevirtual 123, 3) := by decide +kernel
theorem dX0_elementsBefore_37 : decode cX0_elementsBefore 37 = .ok (.aload_n 0, 1) := by decide +kernel
theorem dX0_elementsBefore_38 : decode cX0_elementsBefore 38 = .ok (.iload 4, 2) := by decide +kernel
theorem dX0_elementsBefore_40 : decode cX0_elementsBefore 40 = .ok (.iconst 1, 1) := by decide +kernel
theorem dX0_elementsBefore_41 : decode cX0_elementsBefore 41 = .ok (.iadd, 1) := by decide +kernel
theorem dX0_elementsBefore_42 : decode cX0_elementsBefore 42 = .ok (.invokevirtual 53, 3) := by decide +kernel
theorem dX0_elementsBefore_45 : decode cX0_elementsBefore 45 = .ok (.imul, 1) := by decide +kernel
theorem dX0_elementsBefore_46 : decode cX0_elementsBefore 46 = .ok (.iadd, 1) := by decide +kernel
theorem dX0_elementsBefore_47 : decode cX0_elementsBefore 47 = .ok (.istore_n 2, 1) := by decide +kernel
theorem dX0_elementsBefore_48 : decode cX0_elementsBefore 48 = .ok (.aload_n 0, 1) := by decide +kernel
theorem dX0_elementsBefore_49 : decode cX0_elementsBefore 49 = .ok (.aload_n 0, 1) := by decide +kernel
theorem dX0_elementsBefore_50 : decode cX0_elementsBefore 50 = .ok (.iload 4, 2) := by decide +kernel
theorem dX0_elementsBefore_52 : decode cX0_elementsBefore 52 = .ok (.aload_n 0, 1) := by decide +kernel
theorem dX0_elementsBefore_53 : decode cX0_elementsBefore 53 = .ok (.iload_n 3, 1) := by decide +kernel
theorem dX0_elementsBefore_54 : decode cX0_elementsBefore 54 = .ok (.invokevirtual 49, 3) := by decide +kernel
theorem dX0_elementsBefore_57 : decode cX0_elementsBefore 57 = .ok (.iload 5, 2) := by decide +kernel
theorem dX0_elementsBefore_59 : decode cX0_elementsBefore 59 = .ok (.invokestatic 94, 3) := by decide +kernel
theorem dX0_elementsBefore_62 : decode cX0_elementsBefore 62 = .ok (.invokevirtual 97, 3) := by decide +kernel
theorem dX0_elementsBefore_65 : decode cX0_elementsBefore 65 = .ok (.iload_n 3, 1) := by decide +kernel
theorem dX0_elementsBefore_66 : decode cX0_elementsBefore 66 = .ok (.invokevirtual 45, 3) := by decide +kernel
theorem dX0_elementsBefore_69 : decode cX0_elementsBefore 69 = .ok (.istore_n 3, 1) := by decide +kernel
theorem dX0_elementsBefore_70 : decode cX0_elementsBefore 70 = .ok (.iinc 4 1, 3) := by decide +kernel
theorem dX0_elementsBefore_73 : decode cX0_elementsBefore 73 = .ok (.goto (-63), 3) := by decide +kernel
theorem dX0_elementsBefore_76 : decode cX0_elementsBefore 76 = .ok (.iload_n 2, 1) := by decide +kernel
theorem dX0_elementsBefore_77 : decode cX0_elementsBefore 77 = .ok (.ireturn, 1) := by decide +kernel
set_option maxRecDepth 20000 in
theorem ggX0_entriesBelow_X0_entry : GoodIn wsX0_entriesBelow wsX0_entry := goodIn_r _ [6, 7, 8, 9, 10, 5, 11, 15, 16, 17, 18, 19, 20, 21] (by decide +kernel) (by decide +kernel)
set_option maxRecDepth 20000 in
theorem gX0_entriesBelow_X0_entry : GoodIn wsX0_entriesBelow (wsV RX0 97 RX0 yX0_entry wsX0_entry) := goodIn_app (goodIn_of _ (by decide +kernel)) ggX0_entriesBelow_X0_entry
set_option maxRecDepth 20000 in
theorem ggX0_entriesBelow_X0_image : GoodIn wsX0_entriesBelow wsX0_image := goodIn_r _ [14] (by decide +kernel) (by decide +kernel)
set_option maxRecDepth 20000 in
theorem gX0_entriesBelow_X0_image : GoodIn wsX0_entriesBelow (va_wsS RX0 94 yX0_image wsX0_image) := goodIn_app (goodIn_of _ (by decide +kernel)) ggX0_entriesBelow_X0_image
theorem dX0_entriesBelow_0 : decode cX0_entriesBelow 0 = .ok (.iconst 0, 1) := by decide +kernel
theorem dX0_entriesBelow_1 : decode cX0_entriesBelow 1 = .ok (.istore 4, 2) := by decide +kernel
theorem dX0_entriesBelow_3 : decode cX0_entriesBelow 3 = .ok (.iload_n 1, 1) := by decide +kernel
theorem dX0_entriesBelow_4 : decode cX0_entriesBelow 4 = .ok (.istore 5, 2) := by decide +kernel
theorem dX0_entriesBelow_6 : decode cX0_entriesBelow 6 = .ok (.iload 5, 2) := by decide +kernel
theorem dX0_entriesBelow_8 : decode cX0_entriesBelow 8 = .ok (.aload_n 0, 1) := by decide +kernel
theorem dX0_entriesBelow_9 : decode cX0_entriesBelow 9 = .ok (.getfield 25, 3) := by decide +kernel
theorem dX0_entriesBelow_12 : decode cX0_entriesBelow 12 = .ok (.if_icmp .ge 33, 3) := by decide +kernel
theorem dX0_entriesBelow_15 : decode cX0_entriesBelow 15 = .ok (.aload_n 0, 1) := by decide +kernel
theorem dX0_entriesBelow_16 : decode cX0_entriesBelow 16 = .ok (.iload_n 1, 1) := by decide +kernel
theorem dX0_entriesBelow_17 : decode cX0_entriesBelow 17 = .ok (.iload 5, 2) := by decide +kernel
theorem dX0_entriesBelow_19 : decode cX0_entriesBelow 19 = .ok (.invokevirtual 97, 3) := by decide +kernel
theorem dX0_entriesBelow_22 : decode cX0_entriesBelow 22 = .ok (.iconst (-1), 1) := by decide +kernel
theorem dX0_entriesBelow_23 : decode cX0_entriesBelow 23 = .ok (.if_icmp .eq 16, 3) := by decide +kernel
theorem dX0_entriesBelow_26 : decode cX0_entriesBelow 26 = .ok (.iload_n 2, 1) := by decide +kernel
theorem dX0_entriesBelow_27 : decode cX0_entriesBelow 27 = .ok (.iload 5, 2) := by decide +kernel
theorem dX0_entriesBelow_29 : decode cX0_entriesBelow 29 = .ok (.invokestatic 94, 3) := by decide +kernel
theorem dX0_entriesBelow_32 : decode cX0_entriesBelow 32 = .ok (.iload_n 3, 1) := by decide +kernel
theorem dX0_entriesBelow_33 : decode cX0_entriesBelow 33 = .ok (.if_icmp .ge 6, 3) := by decide +kernel
theorem dX0_entriesBelow_36 : decode cX0_entriesBelow 36 = .ok (.iinc 4 1, 3) := by decide +kernel
theorem dX0_entriesBelow_39 : decode cX0_entriesBelow 39 = .ok (.iinc 5 1, 3) := by decide +kernel
theorem dX0_entriesBelow_42 : decode cX0_entriesBelow 42 = .ok (.goto (-36), 3) := by decide +kernel
theorem dX0_entriesBelow_45 : decode cX0_entriesBelow 45 = .ok (.iload 4, 2) := by decide +kernel
theorem dX0_entriesBelow_47 : decode cX0_entriesBelow 47 = .ok (.ireturn, 1) := by decide +kernel
end
section
theorem dX1_init_0 : decode cX1_init 0 = .ok (.aload_n 0, 1) := by decide +kernel
theorem dX1_init_1 : decode cX1_init 1 = .ok (.invokespecial 1, 3) := by decide +kernel
theorem dX1_init_4 : decode cX1_init 4 = .ok (.aload_n 0, 1) := by decide +kernel
theorem dX1_init_5 : decode cX1_init 5 = .ok (.bipush 8, 2) := by decide +kernel
theorem dX1_init_7 : decode cX1_init 7 = .ok (.newarray .int, 2) := by decide +kernel
theorem dX1_init_9 : decode cX1_init 9 = .ok (.dup, 1) := by decide +kernel
theorem dX1_init_10 : decode cX1_init 10 = .ok (.iconst 0, 1) := by decide +kernel
theorem dX1_init_11 : decode cX1_init 11 = .ok (.iconst 1, 1) := by decide +kernel
theorem dX1_init_12 : decode cX1_init 12 = .ok (.iastore, 1) := by decide +kernel
theorem dX1_init_13 : decode cX1_init 13 = .ok (.dup, 1) := by decide +kernel
theorem dX1_init_14 : decode cX1_init 14 = .ok (.iconst 1, 1) := by decide +kernel
theorem dX1_init_15 : decode cX1_init 15 = .ok (.iconst 1, 1) := by decide +kernel
theorem dX1_init_16 : decode cX1_init 16 = .ok (.iastore, 1) := by decide +kernel
theorem dX1_init_17 : decode cX1_init 17 = .ok (.dup, 1) := by decide +kernel
theorem dX1_init_18 : decode cX1_init 18 = .ok (.iconst 2, 1) := by decide +kernel
theorem dX1_init_19 : decode cX1_init 19 = .ok (.iconst 2, 1) := by decide +kernel
theorem dX1_init_20 : decode cX1_init 20 = .ok (.iastore, 1) := by decide +kernel
theorem dX1_init_21 : decode cX1_init 21 = .ok (.dup, 1) := by decide +kernel
theorem dX1_init_22 : decode cX1_init 22 = .ok (.iconst 3, 1) := by decide +kernel
theorem dX1_init_23 : decode cX1_init 23 = .ok (.bipush 6, 2) := by decide +kernel
theorem dX1_init_25 : decode cX1_init 25 = .ok (.iastore, 1) := by decide +kernel
theorem dX1_init_26 : decode cX1_init 26 = .ok (.dup, 1) := by decide +kernel
theorem dX1_init_27 : decode cX1_init 27 = .ok (.iconst 4, 1) := by decide +kernel
theorem dX1_init_28 : decode cX1_init 28 = .ok (.bipush 24, 2) := by decide +kernel
theorem dX1_init_30 : decode cX1_init 30 = .ok (.iastore, 1) := by decide +kernel
theorem dX1_init_31 : decode cX1_init 31 = .ok (.dup, 1) := by decide +kernel
theorem dX1_init_32 : decode cX1_init 32 = .ok (.iconst 5, 1) := by decide +kernel
theorem dX1_init_33 : decode cX1_init 33 = .ok (.bipush 120, 2) := by decide +kernel
theorem dX1_init_35 : decode cX1_init 35 = .ok (.iastore, 1) := by decide +kernel
theorem dX1_init_36 : decode cX1_init 36 = .ok (.dup, 1) := by decide +kernel
theorem dX1_init_37 : decode cX1_init 37 = .ok (.bipush 6, 2) := by decide +kernel
theorem dX1_init_39 : decode cX1_init 39 = .ok (.sipush 720, 3) := by decide +kernel
theorem dX1_init_42 : decode cX1_init 42 = .ok (.iastore, 1) := by decide +kernel
theorem dX1_init_43 : decode cX1_init 43 = .ok (.dup, 1) := by decide +kernel
theorem dX1_init_44 : decode cX1_init 44 = .ok (.bipush 7, 2) := by decide +kernel
theorem dX1_init_46 : decode cX1_init 46 = .ok (.sipush 5040, 3) := by decide +kernel
theorem dX1_init_49 : decode cX1_init 49 = .ok (.iastore, 1) := by decide +kernel
theorem dX1_init_50 : decode cX1_init 50 = .ok (.putfield 7, 3) := by decide +kernel
theorem dX1_init_53 : decode cX1_init 53 = .ok (.aload_n 0, 1) := by decide +kernel
theorem dX1_init_54 : decode cX1_init 54 = .ok (.bipush 12, 2) := by decide +kernel
theorem dX1_init_56 : decode cX1_init 56 = .ok (.newarray .int, 2) := by decide +kernel
theorem dX1_init_58 : decode cX1_init 58 = .ok (.putfield 13, 3) := by decide +kernel
theorem dX1_init_61 : decode cX1_init 61 = .ok (.aload_n 0, 1) := by decide +kernel
theorem dX1_init_62 : decode cX1_init 62 = .ok (.sipush 5040, 3) := by decide +kernel
theorem dX1_init_65 : decode cX1_init 65 = .ok (.newarray .boolean, 2) := by decide +kernel
theorem dX1_init_67 : decode cX1_init 67 = .ok (.putfield 16, 3) := by decide +kernel
theorem dX1_init_70 : decode cX1_init 70 = .ok (.aload_n 0, 1) := by decide +kernel
theorem dX1_init_71 : decode cX1_init 71 = .ok (.sipush 5040, 3) := by decide +kernel
theorem dX1_init_74 : decode cX1_init 74 = .ok (.newarray .int, 2) := by decide +kernel
theorem dX1_init_76 : decode cX1_init 76 = .ok (.putfield 20, 3) := by decide +kernel
theorem dX1_init_79 : decode cX1_init 79 = .ok (.aload_n 0, 1) := by decide +kernel
theorem dX1_init_80 : decode cX1_init 80 = .ok (.iconst 5, 1) := by decide +kernel
theorem dX1_init_81 : decode cX1_init 81 = .ok (.putfield 23, 3) := by decide +kernel
theorem dX1_init_84 : decode cX1_init 84 = .ok (.return_, 1) := by decide +kernel
theorem dX1_image_0 : decode cX1_image 0 = .ok (.iload_n 0, 1) := by decide +kernel
theorem dX1_image_1 : decode cX1_image 1 = .ok (.iconst 3, 1) := by decide +kernel
theorem dX1_image_2 : decode cX1_image 2 = .ok (.iload_n 1, 1) := by decide +kernel
theorem dX1_image_3 : decode cX1_image 3 = .ok (.imul, 1) := by decide +kernel
theorem dX1_image_4 : decode cX1_image 4 = .ok (.ishr, 1) := by decide +kernel
theorem dX1_image_5 : decode cX1_image 5 = .ok (.bipush 7, 2) := by decide +kernel
theorem dX1_image_7 : decode cX1_image 7 = .ok (.iand, 1) := by decide +kernel
theorem dX1_image_8 : decode cX1_image 8 = .ok (.ireturn, 1) := by decide +kernel
set_option maxRecDepth 20000 in
theorem ggX1_isPermutation_X1_image : GoodIn wsX1_isPermutation wsX1_image := goodIn_r _ [5] (by decide +kernel) (by decide +kernel)
set_option maxRecDepth 20000 in
theorem gX1_isPermutation_X1_image : GoodIn wsX1_isPermutation (va_wsS RX1 27 yX1_image wsX1_image) := goodIn_app (goodIn_of _ (by decide +kernel)) ggX1_isPermutation_X1_image
theorem dX1_isPermutation_0 : decode cX1_isPermutation 0 = .ok (.iload_n 1, 1) := by decide +kernel
theorem dX1_isPermutation_1 : decode cX1_isPermutation 1 = .ok (.ifCond .lt 14, 3) := by decide +kernel
theorem dX1_isPermutation_4 : decode cX1_isPermutation 4 = .ok (.iload_n 1, 1) := by decide +kernel
theorem dX1_isPermutation_5 : decode cX1_isPermutation 5 = .ok (.iconst 3, 1) := by decide +kernel
theorem dX1_isPermutation_6 : decode cX1_isPermutation 6 = .ok (.aload_n 0, 1) := by decide +kernel
theorem dX1_isPermutation_7 : decode cX1_isPermutation 7 = .ok (.getfield 23, 3) := by decide +kernel
theorem dX1_isPermutation_10 : decode cX1_isPermutation 10 = .ok (.imul, 1) := by decide +kernel
theorem dX1_isPermutation_11 : decode cX1_isPermutation 11 = .ok (.ishr, 1) := by decide +kernel
theorem dX1_isPermutation_12 : decode cX1_isPermutation 12 = .ok (.ifCond .eq 5, 3) := by decide +kernel
theorem dX1_isPermutation_15 : decode cX1_isPermutation 15 = .ok (.iconst 0, 1) := by decide +kernel
theorem dX1_isPermutation_16 : decode cX1_isPermutation 16 = .ok (.ireturn, 1) := by decide +kernel
theorem dX1_isPermutation_17 : decode cX1_isPermutation 17 = .ok (.iconst 0, 1) := by decide +kernel
theorem dX1_isPermutation_18 : decode cX1_isPermutation 18 = .ok (.istore_n 2, 1) := by decide +kernel
theorem dX1_isPermutation_19 : decode cX1_isPermutation 19 = .ok (.iconst 0, 1) := by decide +kernel
theorem dX1_isPermutation_20 : decode cX1_isPermutation 20 = .ok (.istore_n 3, 1) := by decide +kernel
theorem dX1_isPermutation_21 : decode cX1_isPermutation 21 = .ok (.iload_n 3, 1) := by decide +kernel
theorem dX1_isPermutation_22 : decode cX1_isPermutation 22 = .ok (.aload_n 0, 1) := by decide +kernel
theorem dX1_isPermutation_23 : decode cX1_isPermutation 23 = .ok (.getfield 23, 3) := by decide +kernel
theorem dX1_isPermutation_26 : decode cX1_isPermutation 26 = .ok (.if_icmp .ge 19, 3) := by decide +kernel
theorem dX1_isPermutation_29 : decode cX1_isPermutation 29 = .ok (.iload_n 2, 1) := by decide +kernel
theorem dX1_isPermutation_30 : decode cX1_isPermutation 30 = .ok (.iconst 1, 1) := by decide +kernel
theorem dX1_isPermutation_31 : decode cX1_isPermutation 31 = .ok (.iload_n 1, 1) := by decide +kernel
theorem dX1_isPermutation_32 : decode cX1_isPermutation 32 = .ok (.iload_n 3, 1) := by decide +kernel
theorem dX1_isPermutation_33 : decode cX1_isPermutation 33 = .ok (.invokestatic 27, 3) := by decide +kernel
theorem dX1_isPermutation_36 : decode cX1_isPermutation 36 = .ok (.ishl, 1) := by decide +kernel
theorem dX1_isPermutation_37 : decode cX1_isPermutation 37 = .ok (.ior, 1) := by decide +kernel
theorem dX1_isPermutation_38 : decode cX1_isPermutation 38 = .ok (.istore_n 2, 1) := by decide +kernel
theorem dX1_isPermutation_39 : decode cX1_isPermutation 39 = .ok (.iinc 3 1, 3) := by decide +kernel
theorem dX1_isPermutation_42 : decode cX1_isPermutation 42 = .ok (.goto (-21), 3) := by decide +kernel
theorem dX1_isPermutation_45 : decode cX1_isPermutation 45 = .ok (.iload_n 2, 1) := by decide +kernel
theorem dX1_isPermutation_46 : decode cX1_isPermutation 46 = .ok (.iconst 1, 1) := by decide +kernel
theorem dX1_isPermutation_47 : decode cX1_isPermutation 47 = .ok (.aload_n 0, 1) := by decide +kernel
theorem dX1_isPermutation_48 : decode cX1_isPermutation 48 = .ok (.getfield 23, 3) := by decide +kernel
theorem dX1_isPermutation_51 : decode cX1_isPermutation 51 = .ok (.ishl, 1) := by decide +kernel
theorem dX1_isPermutation_52 : decode cX1_isPermutation 52 = .ok (.iconst 1, 1) := by decide +kernel
theorem dX1_isPermutation_53 : decode cX1_isPermutation 53 = .ok (.isub, 1) := by decide +kernel
theorem dX1_isPermutation_54 : decode cX1_isPermutation 54 = .ok (.if_icmp .ne 7, 3) := by decide +kernel
theorem dX1_isPermutation_57 : decode cX1_isPermutation 57 = .ok (.iconst 1, 1) := by decide +kernel
theorem dX1_isPermutation_58 : decode cX1_isPermutation 58 = .ok (.goto 4, 3) := by decide +kernel
theorem dX1_isPermutation_61 : decode cX1_isPermutation 61 = .ok (.iconst 0, 1) := by decide +kernel
theorem dX1_isPermutation_62 : decode cX1_isPermutation 62 = .ok (.ireturn, 1) := by decide +kernel
set_option maxRecDepth 20000 in
theorem ggX1_times_X1_image : GoodIn wsX1_times wsX1_image := goodIn_r _ [5] (by decide +kernel) (by decide +kernel)
set_option maxRecDepth 20000 in
theorem gX1_times_X1_image : GoodIn wsX1_times (va_wsS RX1 27 yX1_image wsX1_image) := goodIn_app (goodIn_of _ (by decide +kernel)) ggX1_times_X1_image
theorem dX1_times_0 : decode cX1_times 0 = .ok (.iconst 0, 1) := by decide +kernel
theorem dX1_times_1 : decode cX1_times 1 = .ok (.istore_n 3, 1) := by decide +kernel
theorem dX1_times_2 : decode cX1_times 2 = .ok (.iconst 0, 1) := by decide +kernel
theorem dX1_times_3 : decode cX1_times 3 = .ok (.istore 4, 2) := by decide +kernel
theorem dX1_times_5 : decode cX1_times 5 = .ok (.iload 4, 2) := by decide +kernel
theorem dX1_times_7 : decode cX1_times 7 = .ok (.aload_n 0, 1) := by decide +kernel
theorem dX1_times_8 : decode cX1_times 8 = .ok (.getfield 23, 3) := by decide +kernel
theorem dX1_times_11 : decode cX1_times 11 = .ok (.if_icmp .ge 27, 3) := by decide +kernel
theorem dX1_times_14 : decode cX1_times 14 = .ok (.iload_n 3, 1) := by decide +kernel
theorem dX1_times_15 : decode cX1_times 15 = .ok (.iload_n 2, 1) := by decide +kernel
theorem dX1_times_16 : decode cX1_times 16 = .ok (.iload_n 1, 1) := by decide +kernel
theorem dX1_times_17 : decode cX1_times 17 = .ok (.iload 4, 2) := by decide +kernel
theorem dX1_times_19 : decode cX1_times 19 = .ok (.invokestatic 27, 3) := by decide +kernel
theorem dX1_times_22 : decode cX1_times 22 = .ok (.invokestatic 27, 3) := by decide +kernel
theorem dX1_times_25 : decode cX1_times 25 = .ok (.iconst 3, 1) := by decide +kernel
theorem dX1_times_26 : decode cX1_times 26 = .ok (.iload 4, 2) := by decide +kernel
theorem dX1_times_28 : decode cX1_times 28 = .ok (.imul, 1) := by decide +kernel
theorem dX1_times_29 : decode cX1_times 29 = .ok (.ishl, 1) := by decide +kernel
theorem dX1_times_30 : decode cX1_times 30 = .ok (.ior, 1) := by decide +kernel
theorem dX1_times_31 : decode cX1_times 31 = .ok (.istore_n 3, 1) := by decide +kernel
theorem dX1_times_32 : decode cX1_times 32 = .ok (.iinc 4 1, 3) := by decide +kernel
theorem dX1_times_35 : decode cX1_times 35 = .ok (.goto (-30), 3) := by decide +kernel
theorem dX1_times_38 : decode cX1_times 38 = .ok (.iload_n 3, 1) := by decide +kernel
theorem dX1_times_39 : decode cX1_times 39 = .ok (.ireturn, 1) := by decide +kernel
set_option maxRecDepth 20000 in
theorem ggX1_back_X1_image : GoodIn wsX1_back wsX1_image := goodIn_r _ [5] (by decide +kernel) (by decide +kernel)
set_option maxRecDepth 20000 in
theorem gX1_back_X1_image : GoodIn wsX1_back (va_wsS RX1 27 yX1_image wsX1_image) := goodIn_app (goodIn_of _ (by decide +kernel)) ggX1_back_X1_image
theorem dX1_back_0 : decode cX1_back 0 = .ok (.iconst 0, 1) := by decide +kernel
theorem dX1_back_1 : decode cX1_back 1 = .ok (.istore_n 2, 1) := by decide +kernel
theorem dX1_back_2 : decode cX1_back 2 = .ok (.iconst 0, 1) := by decide +kernel
theorem dX1_back_3 : decode cX1_back 3 = .ok (.istore_n 3, 1) := by decide +kernel
theorem dX1_back_4 : decode cX1_back 4 = .ok (.iload_n 3, 1) := by decide +kernel
theorem dX1_back_5 : decode cX1_back 5 = .ok (.aload_n 0, 1) := by decide +kernel
theorem dX1_back_6 : decode cX1_back 6 = .ok (.getfield 23, 3) := by decide +kernel
theorem dX1_back_9 : decode cX1_back 9 = .ok (.if_icmp .ge 21, 3) := by decide +kernel
theorem dX1_back_12 : decode cX1_back 12 = .ok (.iload_n 2, 1) := by decide +kernel
theorem dX1_back_13 : decode cX1_back 13 = .ok (.iload_n 3, 1) := by decide +kernel
theorem dX1_back_14 : decode cX1_back 14 = .ok (.iconst 3, 1) := by decide +kernel
theorem dX1_back_15 : decode cX1_back 15 = .ok (.iload_n 1, 1) := by decide +kernel
theorem dX1_back_16 : decode cX1_back 16 = .ok (.iload_n 3, 1) := by decide +kernel
theorem dX1_back_17 : decode cX1_back 17 = .ok (.invokestatic 27, 3) := by decide +kernel
theorem dX1_back_20 : decode cX1_back 20 = .ok (.imul, 1) := by decide +kernel
theorem dX1_back_21 : decode cX1_back 21 = .ok (.ishl, 1) := by decide +kernel
theorem dX1_back_22 : decode cX1_back 22 = .ok (.ior, 1) := by decide +kernel
theorem dX1_back_23 : decode cX1_back 23 = .ok (.istore_n 2, 1) := by decide +kernel
theorem dX1_back_24 : decode cX1_back 24 = .ok (.iinc 3 1, 3) := by decide +kernel
theorem dX1_back_27 : decode cX1_back 27 = .ok (.goto (-23), 3) := by decide +kernel
theorem dX1_back_30 : decode cX1_back 30 = .ok (.iload_n 2, 1) := by decide +kernel
theorem dX1_back_31 : decode cX1_back 31 = .ok (.ireturn, 1) := by decide +kernel
set_option maxRecDepth 20000 in
theorem ggX1_free_X1_image : GoodIn wsX1_free wsX1_image := goodIn_r _ [4] (by decide +kernel) (by decide +kernel)
set_option maxRecDepth 20000 in
theorem gX1_free_X1_image : GoodIn wsX1_free (va_wsS RX1 27 yX1_image wsX1_image) := goodIn_app (goodIn_of _ (by decide +kernel)) ggX1_free_X1_image
theorem dX1_free_0 : decode cX1_free 0 = .ok (.iconst 0, 1) := by decide +kernel
theorem dX1_free_1 : decode cX1_free 1 = .ok (.istore 4, 2) := by decide +kernel
theorem dX1_free_3 : decode cX1_free 3 = .ok (.iconst 0, 1) := by decide +kernel
theorem dX1_free_4 : decode cX1_free 4 = .ok (.istore 5, 2) := by decide +kernel
theorem dX1_free_6 : decode cX1_free 6 = .ok (.iload 5, 2) := by decide +kernel
theorem dX1_free_8 : decode cX1_free 8 = .ok (.iload_n 3, 1) := by decide +kernel
theorem dX1_free_9 : decode cX1_free 9 = .ok (.if_icmp .ge 49, 3) := by decide +kernel
theorem dX1_free_12 : decode cX1_free 12 = .ok (.iconst 0, 1) := by decide +kernel
theorem dX1_free_13 : decode cX1_free 13 = .ok (.istore 6, 2) := by decide +kernel
theorem dX1_free_15 : decode cX1_free 15 = .ok (.iconst 0, 1) := by decide +kernel
theorem dX1_free_16 : decode cX1_free 16 = .ok (.istore 7, 2) := by decide +kernel
theorem dX1_free_18 : decode cX1_free 18 = .ok (.iload 7, 2) := by decide +kernel
theorem dX1_free_20 : decode cX1_free 20 = .ok (.iload_n 2, 1) := by decide +kernel
theorem dX1_free_21 : decode cX1_free 21 = .ok (.if_icmp .ge 23, 3) := by decide +kernel
theorem dX1_free_24 : decode cX1_free 24 = .ok (.iload_n 1, 1) := by decide +kernel
theorem dX1_free_25 : decode cX1_free 25 = .ok (.iload 7, 2) := by decide +kernel
theorem dX1_free_27 : decode cX1_free 27 = .ok (.invokestatic 27, 3) := by decide +kernel
theorem dX1_free_30 : decode cX1_free 30 = .ok (.iload 5, 2) := by decide +kernel
theorem dX1_free_32 : decode cX1_free 32 = .ok (.if_icmp .ne 6, 3) := by decide +kernel
theorem dX1_free_35 : decode cX1_free 35 = .ok (.iconst 1, 1) := by decide +kernel
theorem dX1_free_36 : decode cX1_free 36 = .ok (.istore 6, 2) := by decide +kernel
theorem dX1_free_38 : decode cX1_free 38 = .ok (.iinc 7 1, 3) := by decide +kernel
theorem dX1_free_41 : decode cX1_free 41 = .ok (.goto (-23), 3) := by decide +kernel
theorem dX1_free_44 : decode cX1_free 44 = .ok (.iload 6, 2) := by decide +kernel
theorem dX1_free_46 : decode cX1_free 46 = .ok (.ifCond .ne 6, 3) := by decide +kernel
theorem dX1_free_49 : decode cX1_free 49 = .ok (.iinc 4 1, 3) := by decide +kernel
theorem dX1_free_52 : decode cX1_free 52 = .ok (.iinc 5 1, 3) := by decide +kernel
theorem dX1_free_55 : decode cX1_free 55 = .ok (.goto (-49), 3) := by decide +kernel
theorem dX1_free_58 : decode cX1_free 58 = .ok (.iload 4, 2) := by decide +kernel
theorem dX1_free_60 : decode cX1_free 60 = .ok (.ireturn, 1) := by decide +kernel
set_option maxRecDepth 20000 in
theorem ggX1_numberOf_X1_image : GoodIn wsX1_numberOf wsX1_image := goodIn_r _ [6] (by decide +kernel) (by decide +kernel)
set_option maxRecDepth 20000 in
theorem gX1_numberOf_X1_image : GoodIn wsX1_numberOf (va_wsS RX1 27 yX1_image wsX1_image) := goodIn_app (goodIn_of _ (by decide +kernel)) ggX1_numberOf_X1_image
set_option maxRecDepth 20000 in
theorem ggX1_numberOf_X1_free : GoodIn wsX1_numberOf wsX1_free := goodIn_r _ [10, 3, 4, 5, 6] (by decide +kernel) (by decide +kernel)
set_option maxRecDepth 20000 in
theorem gX1_numberOf_X1_free : GoodIn wsX1_numberOf (wsV RX1 31 RX1 yX1_free wsX1_free) := goodIn_app (goodIn_of _ (by decide +kernel)) ggX1_numberOf_X1_free
theorem dX1_numberOf_0 : decode cX1_numberOf 0 = .ok (.iconst 0, 1) := by decide +kernel
theorem dX1_numberOf_1 : decode cX1_numberOf 1 = .ok (.istore_n 2, 1) := by decide +kernel
theorem dX1_numberOf_2 : decode cX1_numberOf 2 = .ok (.iconst 0, 1) := by decide +kernel
theorem dX1_numberOf_3 : decode cX1_numberOf 3 = .ok (.istore_n 3, 1) := by decide +kernel
theorem dX1_numberOf_4 : decode cX1_numberOf 4 = .ok (.iload_n 3, 1) := by decide +kernel
theorem dX1_numberOf_5 : decode cX1_numberOf 5 = .ok (.aload_n 0, 1) := by decide +kernel
theorem dX1_numberOf_6 : decode cX1_numberOf 6 = .ok (.getfield 23, 3) := by decide +kernel
theorem dX1_numberOf_9 : decode cX1_numberOf 9 = .ok (.if_icmp .ge 37, 3) := by decide +kernel
theorem dX1_numberOf_12 : decode cX1_numberOf 12 = .ok (.iload_n 2, 1) := by decide +kernel
theorem dX1_numberOf_13 : decode cX1_numberOf 13 = .ok (.aload_n 0, 1) := by decide +kernel
theorem dX1_numberOf_14 : decode cX1_numberOf 14 = .ok (.iload_n 1, 1) := by decide +kernel
theorem dX1_numberOf_15 : decode cX1_numberOf 15 = .ok (.iload_n 3, 1) := by decide +kernel
theorem dX1_numberOf_16 : decode cX1_numberOf 16 = .ok (.iload_n 1, 1) := by decide +kernel
theorem dX1_numberOf_17 : decode cX1_numberOf 17 = .ok (.iload_n 3, 1) := by decide +kernel
theorem dX1_numberOf_18 : decode cX1_numberOf 18 = .ok (.invokestatic 27, 3) := by decide +kernel
theorem dX1_numberOf_21 : decode cX1_numberOf 21 = .ok (.invokevirtual 31, 3) := by decide +kernel
theorem dX1_numberOf_24 : decode cX1_numberOf 24 = .ok (.aload_n 0, 1) := by decide +kernel
theorem dX1_numberOf_25 : decode cX1_numberOf 25 = .ok (.getfield 7, 3) := by decide +kernel
theorem dX1_numberOf_28 : decode cX1_numberOf 28 = .ok (.aload_n 0, 1) := by decide +kernel
theorem dX1_numberOf_29 : decode cX1_numberOf 29 = .ok (.getfield 23, 3) := by decide +kernel
theorem dX1_numberOf_32 : decode cX1_numberOf 32 = .ok (.iconst 1, 1) := by decide +kernel
theorem dX1_numberOf_33 : decode cX1_numberOf 33 = .ok (.isub, 1) := by decide +kernel
theorem dX1_numberOf_34 : decode cX1_numberOf 34 = .ok (.iload_n 3, 1) := by decide +kernel
theorem dX1_numberOf_35 : decode cX1_numberOf 35 = .ok (.isub, 1) := by decide +kernel
theorem dX1_numberOf_36 : decode cX1_numberOf 36 = .ok (.iaload, 1) := by decide +kernel
theorem dX1_numberOf_37 : decode cX1_numberOf 37 = .ok (.imul, 1) := by decide +kernel
theorem dX1_numberOf_38 : decode cX1_numberOf 38 = .ok (.iadd, 1) := by decide +kernel
theorem dX1_numberOf_39 : decode cX1_numberOf 39 = .ok (.istore_n 2, 1) := by decide +kernel
theorem dX1_numberOf_40 : decode cX1_numberOf 40 = .ok (.iinc 3 1, 3) := by decide +kernel
theorem dX1_numberOf_43 : decode cX1_numberOf 43 = .ok (.goto (-39), 3) := by decide +kernel
theorem dX1_numberOf_46 : decode cX1_numberOf 46 = .ok (.iload_n 2, 1) := by decide +kernel
theorem dX1_numberOf_47 : decode cX1_numberOf 47 = .ok (.ireturn, 1) := by decide +kernel
set_option maxRecDepth 20000 in
theorem ggX1_permutation_X1_free : GoodIn wsX1_permutation wsX1_free := goodIn_r _ [7, 8, 9, 6, 10] (by decide +kernel) (by decide +kernel)
set_option maxRecDepth 20000 in
theorem gX1_permutation_X1_free : GoodIn wsX1_permutation (wsV RX1 31 RX1 yX1_free wsX1_free) := goodIn_app (goodIn_of _ (by decide +kernel)) ggX1_permutation_X1_free
set_option maxRecDepth 20000 in
theorem ggX1_permutation_X1_isUsed : GoodIn wsX1_permutation wsX1_isUsed := goodIn_r _ [13, 8, 9, 6, 10] (by decide +kernel) (by decide +kernel)
set_option maxRecDepth 20000 in
theorem gX1_permutation_X1_isUsed : GoodIn wsX1_permutation (va_wsS RX1 35 yX1_isUsed wsX1_isUsed) := goodIn_app (goodIn_of _ (by decide +kernel)) ggX1_permutation_X1_isUsed
theorem dX1_permutation_0 : decode cX1_permutation 0 = .ok (.iconst 0, 1) := by decide +kernel
theorem dX1_permutation_1 : decode cX1_permutation 1 = .ok (.istore_n 2, 1) := by decide +kernel
theorem dX1_permutation_2 : decode cX1_permutation 2 = .ok (.iload_n 1, 1) := by decide +kernel
theorem dX1_permutation_3 : decode cX1_permutation 3 = .ok (.istore_n 3, 1) := by decide +kernel
theorem dX1_permutation_4 : decode cX1_permutation 4 = .ok (.iconst 0, 1) := by decide +kernel
theorem dX1_permutation_5 : decode cX1_permutation 5 = .ok (.istore 4, 2) := by decide +kernel
theorem dX1_permutation_7 : decode cX1_permutation 7 = .ok (.iload 4, 2) := by decide +kernel
theorem dX1_permutation_9 : decode cX1_permutation 9 = .ok (.aload_n 0, 1) := by decide +kernel
theorem dX1_permutation_10 : decode cX1_permutation 10 = .ok (.getfield 23, 3) := by decide +kernel
theorem dX1_permutation_13 : decode cX1_permutation 13 = .ok (.if_icmp .ge 95, 3) := by decide +kernel
theorem dX1_permutation_16 : decode cX1_permutation 16 = .ok (.iload_n 3, 1) := by decide +kernel
theorem dX1_permutation_17 : decode cX1_permutation 17 = .ok (.aload_n 0, 1) := by decide +kernel
theorem dX1_permutation_18 : decode cX1_permutation 18 = .ok (.getfield 7, 3) := by decide +kernel
theorem dX1_permutation_21 : decode cX1_permutation 21 = .ok (.aload_n 0, 1) := by decide +kernel
theorem dX1_permutation_22 : decode cX1_permutation 22 = .ok (.getfield 23, 3) := by decide +kernel
theorem dX1_permutation_25 : decode cX1_permutation 25 = .ok (.iconst 1, 1) := by decide +kernel
theorem dX1_permutation_26 : decode cX1_permutation 26 = .ok (.isub, 1) := by decide +kernel
theorem dX1_permutation_27 : decode cX1_permutation 27 = .ok (.iload 4, 2) := by decide +kernel
theorem dX1_permutation_29 : decode cX1_permutation 29 = .ok (.isub, 1) := by decide +kernel
theorem dX1_permutation_30 : decode cX1_permutation 30 = .ok (.iaload, 1) := by decide +kernel
theorem dX1_permutation_31 : decode cX1_permutation 31 = .ok (.idiv, 1) := by decide +kernel
theorem dX1_permutation_32 : decode cX1_permutation 32 = .ok (.istore 5, 2) := by decide +kernel
theorem dX1_permutation_34 : decode cX1_permutation 34 = .ok (.iload_n 3, 1) := by decide +kernel
theorem dX1_permutation_35 : decode cX1_permutation 35 = .ok (.aload_n 0, 1) := by decide +kernel
theorem dX1_permutation_36 : decode cX1_permutation 36 = .ok (.getfield 7, 3) := by decide +kernel
theorem dX1_permutation_39 : decode cX1_permutation 39 = .ok (.aload_n 0, 1) := by decide +kernel
theorem dX1_permutation_40 : decode cX1_permutation 40 = .ok (.getfield 23, 3) := by decide +kernel
theorem dX1_permutation_43 : decode cX1_permutation 43 = .ok (.iconst 1, 1) := by decide +kernel
theorem dX1_permutation_44 : decode cX1_permutation 44 = .ok (.isub, 1) := by decide +kernel
theorem dX1_permutation_45 : decode cX1_permutation 45 = .ok (.iload 4, 2) := by decide +kernel
theorem dX1_permutation_47 : decode cX1_permutation 47 = .ok (.isub, 1) := by decide +kernel
theorem dX1_permutation_48 : decode cX1_permutation 48 = .ok (.iaload, 1) := by decide +kernel
theorem dX1_permutation_49 : decode cX1_permutation 49 = .ok (.irem, 1) := by decide +kernel
theorem dX1_permutation_50 : decode cX1_permutation 50 = .ok (.istore_n 3, 1) := by decide +kernel
theorem dX1_permutation_51 : decode cX1_permutation 51 = .ok (.iconst 0, 1) := by decide +kernel
theorem dX1_permutation_52 : decode cX1_permutation 52 = .ok (.istore 6, 2) := by decide +kernel
theorem dX1_permutation_54 : decode cX1_permutation 54 = .ok (.iload 6, 2) := by decide +kernel
theorem dX1_permutation_56 : decode cX1_permutation 56 = .ok (.bipush 7, 2) := by decide +kernel
theorem dX1_permutation_58 : decode cX1_permutation 58 = .ok (.if_icmp .ge 34, 3) := by decide +kernel
theorem dX1_permutation_61 : decode cX1_permutation 61 = .ok (.aload_n 0, 1) := by decide +kernel
theorem dX1_permutation_62 : decode cX1_permutation 62 = .ok (.iload_n 2, 1) := by decide +kernel
theorem dX1_permutation_63 : decode cX1_permutation 63 = .ok (.iload 4, 2) := by decide +kernel
theorem dX1_permutation_65 : decode cX1_permutation 65 = .ok (.iload 6, 2) := by decide +kernel
theorem dX1_permutation_67 : decode cX1_permutation 67 = .ok (.invokevirtual 31, 3) := by decide +kernel
theorem dX1_permutation_70 : decode cX1_permutation 70 = .ok (.iload 5, 2) := by decide +kernel
theorem dX1_permutation_72 : decode cX1_permutation 72 = .ok (.if_icmp .ne 14, 3) := by decide +kernel
theorem dX1_permutation_75 : decode cX1_permutation 75 = .ok (.iload_n 2, 1) := by decide +kernel
theorem dX1_permutation_76 : decode cX1_permutation 76 = .ok (.iload 4, 2) := by decide +kernel
theorem dX1_permutation_78 : decode cX1_permutation 78 = .ok (.iload 6, 2) := by decide +kernel
theorem dX1_permutation_80 : decode cX1_permutation 80 = .ok (.invokestatic 35, 3) := by decide +kernel
theorem dX1_permutation_83 : decode cX1_permutation 83 = .ok (.ifCond .eq 9, 3) := by decide +kernel
theorem dX1_permutation_86 : decode cX1_permutation 86 = .ok (.iinc 6 1, 3) := by decide +kernel
theorem dX1_permutation_89 : decode cX1_permutation 89 = .ok (.goto (-35), 3) := by decide +kernel
theorem dX1_permutation_92 : decode cX1_permutation 92 = .ok (.iload_n 2, 1) := by decide +kernel
theorem dX1_permutation_93 : decode cX1_permutation 93 = .ok (.iload 6, 2) := by decide +kernel
theorem dX1_permutation_95 : decode cX1_permutation 95 = .ok (.iconst 3, 1) := by decide +kernel
theorem dX1_permutation_96 : decode cX1_permutation 96 = .ok (.iload 4, 2) := by decide +kernel
theorem dX1_permutation_98 : decode cX1_permutation 98 = .ok (.imul, 1) := by decide +kernel
theorem dX1_permutation_99 : decode cX1_permutation 99 = .ok (.ishl, 1) := by decide +kernel
theorem dX1_permutation_100 : decode cX1_permutation 100 = .ok (.ior, 1) := by decide +kernel
theorem dX1_permutation_101 : decode cX1_permutation 101 = .ok (.istore_n 2, 1) := by decide +kernel
theorem dX1_permutation_102 : decode cX1_permutation 102 = .ok (.iinc 4 1, 3) := by decide +kernel
theorem dX1_permutation_105 : decode cX1_permutation 105 = .ok (.goto (-98), 3) := by decide +kernel
theorem dX1_permutation_108 : decode cX1_permutation 108 = .ok (.iload_n 2, 1) := by decide +kernel
theorem dX1_permutation_109 : decode cX1_permutation 109 = .ok (.ireturn, 1) := by decide +kernel
set_option maxRecDepth 20000 in
theorem ggX1_isUsed_X1_image : GoodIn wsX1_isUsed wsX1_image := goodIn_r _ [4] (by decide +kernel) (by decide +kernel)
set_option maxRecDepth 20000 in
theorem gX1_isUsed_X1_image : GoodIn wsX1_isUsed (va_wsS RX1 27 yX1_image wsX1_image) := goodIn_app (goodIn_of _ (by decide +kernel)) ggX1_isUsed_X1_image
theorem dX1_isUsed_0 : decode cX1_isUsed 0 = .ok (.iconst 0, 1) := by decide +kernel
theorem dX1_isUsed_1 : decode cX1_isUsed 1 = .ok (.istore_n 3, 1) := by decide +kernel
theorem dX1_isUsed_2 : decode cX1_isUsed 2 = .ok (.iload_n 3, 1) := by decide +kernel
theorem dX1_isUsed_3 : decode cX1_isUsed 3 = .ok (.iload_n 1, 1) := by decide +kernel
theorem dX1_isUsed_4 : decode cX1_isUsed 4 = .ok (.if_icmp .ge 20, 3) := by decide +kernel
theorem dX1_isUsed_7 : decode cX1_isUsed 7 = .ok (.iload_n 0, 1) := by decide +kernel
theorem dX1_isUsed_8 : decode cX1_isUsed 8 = .ok (.iload_n 3, 1) := by decide +kernel
theorem dX1_isUsed_9 : decode cX1_isUsed 9 = .ok (.invokestatic 27, 3) := by decide +kernel
theorem dX1_isUsed_12 : decode cX1_isUsed 12 = .ok (.iload_n 2, 1) := by decide +kernel
theorem dX1_isUsed_13 : decode cX1_isUsed 13 = .ok (.if_icmp .ne 5, 3) := by decide +kernel
theorem dX1_isUsed_16 : decode cX1_isUsed 16 = .ok (.iconst 1, 1) := by decide +kernel
theorem dX1_isUsed_17 : decode cX1_isUsed 17 = .ok (.ireturn, 1) := by decide +kernel
theorem dX1_isUsed_18 : decode cX1_isUsed 18 = .ok (.iinc 3 1, 3) := by decide +kernel
theorem dX1_isUsed_21 : decode cX1_isUsed 21 = .ok (.goto (-19), 3) := by decide +kernel
theorem dX1_isUsed_24 : decode cX1_isUsed 24 = .ok (.iconst 0, 1) := by decide +kernel
theorem dX1_isUsed_25 : decode cX1_isUsed 25 = .ok (.ireturn, 1) := by decide +kernel
theorem dX1_all_0 : decode cX1_all 0 = .ok (.aload_n 0, 1) := by decide +kernel
theorem dX1_all_1 : decode cX1_all 1 = .ok (.getfield 7, 3) := by decide +kernel
theorem dX1_all_4 : decode cX1_all 4 = .ok (.aload_n 0, 1) := by decide +kernel
theorem dX1_all_5 : decode cX1_all 5 = .ok (.getfield 23, 3) := by decide +kernel
theorem dX1_all_8 : decode cX1_all 8 = .ok (.iaload, 1) := by decide +kernel
theorem dX1_all_9 : decode cX1_all 9 = .ok (.ireturn, 1) := by decide +kernel
set_option maxRecDepth 20000 in
theorem ggX1_fill_X1_permutation : GoodIn wsX1_fill wsX1_permutation := goodIn_r _ [9, 10, 11, 12, 13, 14, 8, 15, 16, 17, 18, 19, 20, 21, 30, 31, 32, 33, 34, 35, 36] (by decide +kernel) (by decide +kernel)
set_option maxRecDepth 20000 in
theorem gX1_fill_X1_permutation : GoodIn wsX1_fill (wsV RX1 39 RX1 yX1_permutation wsX1_permutation) := goodIn_app (goodIn_of _ (by decide +kernel)) ggX1_fill_X1_permutation
set_option maxRecDepth 20000 in
theorem ggX1_fill_X1_times : GoodIn wsX1_fill wsX1_times := goodIn_r _ [25, 10, 16, 17, 8, 18, 30, 31, 32, 33, 34, 35, 36] (by decide +kernel) (by decide +kernel)
set_option maxRecDepth 20000 in
theorem gX1_fill_X1_times : GoodIn wsX1_fill (wsV RX1 46 RX1 yX1_times wsX1_times) := goodIn_app (goodIn_of _ (by decide +kernel)) ggX1_fill_X1_times
set_option maxRecDepth 20000 in
theorem ggX1_fill_X1_numberOf : GoodIn wsX1_fill wsX1_numberOf := goodIn_r _ [29, 10, 11, 16, 17, 8, 18, 12, 13, 14, 15, 30, 31, 32, 33, 34, 35, 36] (by decide +kernel) (by decide +kernel)
set_option maxRecDepth 20000 in
theorem gX1_fill_X1_numberOf : GoodIn wsX1_fill (wsV RX1 49 RX1 yX1_numberOf wsX1_numberOf) := goodIn_app (goodIn_of _ (by decide +kernel)) ggX1_fill_X1_numberOf
theorem dX1_fill_0 : decode cX1_fill 0 = .ok (.iconst 0, 1) := by decide +kernel
theorem dX1_fill_1 : decode cX1_fill 1 = .ok (.istore_n 1, 1) := by decide +kernel
theorem dX1_fill_2 : decode cX1_fill 2 = .ok (.iload_n 1, 1) := by decide +kernel
theorem dX1_fill_3 : decode cX1_fill 3 = .ok (.sipush 5040, 3) := by decide +kernel
theorem dX1_fill_6 : decode cX1_fill 6 = .ok (.if_icmp .ge 16, 3) := by decide +kernel
theorem dX1_fill_9 : decode cX1_fill 9 = .ok (.aload_n 0, 1) := by decide +kernel
theorem dX1_fill_10 : decode cX1_fill 10 = .ok (.getfield 16, 3) := by decide +kernel
theorem dX1_fill_13 : decode cX1_fill 13 = .ok (.iload_n 1, 1) := by decide +kernel
theorem dX1_fill_14 : decode cX1_fill 14 = .ok (.iconst 0, 1) := by decide +kernel
theorem dX1_fill_15 : decode cX1_fill 15 = .ok (.bastore, 1) := by decide +kernel
theorem dX1_fill_16 : decode cX1_fill 16 = .ok (.iinc 1 1, 3) := by decide +kernel
theorem dX1_fill_19 : decode cX1_fill 19 = .ok (.goto (-17), 3) := by decide +kernel
theorem dX1_fill_22 : decode cX1_fill 22 = .ok (.aload_n 0, 1) := by decide +kernel
theorem dX1_fill_23 : decode cX1_fill 23 = .ok (.getfield 16, 3) := by decide +kernel
theorem dX1_fill_26 : decode cX1_fill 26 = .ok (.iconst 0, 1) := by decide +kernel
theorem dX1_fill_27 : decode cX1_fill 27 = .ok (.iconst 1, 1) := by decide +kernel
theorem dX1_fill_28 : decode cX1_fill 28 = .ok (.bastore, 1) := by decide +kernel
theorem dX1_fill_29 : decode cX1_fill 29 = .ok (.aload_n 0, 1) := by decide +kernel
theorem dX1_fill_30 : decode cX1_fill 30 = .ok (.getfield 20, 3) := by decide +kernel
theorem dX1_fill_33 : decode cX1_fill 33 = .ok (.iconst 0, 1) := by decide +kernel
theorem dX1_fill_34 : decode cX1_fill 34 = .ok (.iconst 0, 1) := by decide +kernel
theorem dX1_fill_35 : decode cX1_fill 35 = .ok (.iastore, 1) := by decide +kernel
theorem dX1_fill_36 : decode cX1_fill 36 = .ok (.iconst 1, 1) := by decide +kernel
theorem dX1_fill_37 : decode cX1_fill 37 = .ok (.istore_n 1, 1) := by decide +kernel
theorem dX1_fill_38 : decode cX1_fill 38 = .ok (.iconst 0, 1) := by decide +kernel
theorem dX1_fill_39 : decode cX1_fill 39 = .ok (.istore_n 2, 1) := by decide +kernel
theorem dX1_fill_40 : decode cX1_fill 40 = .ok (.iload_n 2, 1) := by decide +kernel
theorem dX1_fill_41 : decode cX1_fill 41 = .ok (.iload_n 1, 1) := by decide +kernel
theorem dX1_fill_42 : decode cX1_fill 42 = .ok (.if_icmp .ge 92, 3) := by decide +kernel
theorem dX1_fill_45 : decode cX1_fill 45 = .ok (.aload_n 0, 1) := by decide +kernel
theorem dX1_fill_46 : decode cX1_fill 46 = .ok (.aload_n 0, 1) := by decide +kernel
theorem dX1_fill_47 : decode cX1_fill 47 = .ok (.getfield 20, 3) := by decide +kernel
theorem dX1_fill_50 : decode cX1_fill 50 = .ok (.iload_n 2, 1) := by decide +kernel
theorem dX1_fill_51 : decode cX1_fill 51 = .ok (.iaload, 1) := by decide +kernel
theorem dX1_fill_52 : decode cX1_fill 52 = .ok (.invokevirtual 39, 3) := by decide +kernel
theorem dX1_fill_55 : decode cX1_fill 55 = .ok (.istore_n 3, 1) := by decide +kernel
theorem dX1_fill_56 : decode cX1_fill 56 = .ok (.iconst 0, 1) := by decide +kernel
theorem dX1_fill_57 : decode cX1_fill 57 = .ok (.istore 4, 2) := by decide +kernel
theorem dX1_fill_59 : decode cX1_fill 59 = .ok (.iload 4, 2) := by decide +kernel
theorem dX1_fill_61 : decode cX1_fill 61 = .ok (.aload_n 0, 1) := by decide +kernel
theorem dX1_fill_62 : decode cX1_fill 62 = .ok (.getfield 43, 3) := by decide +kernel
theorem dX1_fill_65 : decode cX1_fill 65 = .ok (.if_icmp .ge 63, 3) := by decide +kernel
theorem dX1_fill_68 : decode cX1_fill 68 = .ok (.aload_n 0, 1) := by decide +kernel
theorem dX1_fill_69 : decode cX1_fill 69 = .ok (.iload_n 3, 1) := by decide +kernel
theorem dX1_fill_70 : decode cX1_fill 70 = .ok (.aload_n 0, 1) := by decide +kernel
theorem dX1_fill_71 : decode cX1_fill 71 = .ok (.getfield 13, 3) := by decide +kernel
theorem dX1_fill_74 : decode cX1_fill 74 = .ok (.iload 4, 2) := by decide +kernel
theorem dX1_fill_76 : decode cX1_fill 76 = .ok (.iaload, 1) := by decide +kernel
theorem dX1_fill_77 : decode cX1_fill 77 = .ok (.invokevirtual 46, 3) := by decide +kernel
theorem dX1_fill_80 : decode cX1_fill 80 = .ok (.istore 5, 2) := by decide +kernel
theorem dX1_fill_82 : decode cX1_fill 82 = .ok (.aload_n 0, 1) := by decide +kernel
theorem dX1_fill_83 : decode cX1_fill 83 = .ok (.iload 5, 2) := by decide +kernel
theorem dX1_fill_85 : decode cX1_fill 85 = .ok (.invokevirtual 49, 3) := by decide +kernel
theorem dX1_fill_88 : decode cX1_fill 88 = .ok (.istore 6, 2) := by decide +kernel
theorem dX1_fill_90 : decode cX1_fill 90 = .ok (.aload_n 0, 1) := by decide +kernel
theorem dX1_fill_91 : decode cX1_fill 91 = .ok (.getfield 16, 3) := by decide +kernel
theorem dX1_fill_94 : decode cX1_fill 94 = .ok (.iload 6, 2) := by decide +kernel
theorem dX1_fill_96 : decode cX1_fill 96 = .ok (.baload, 1) := by decide +kernel
theorem dX1_fill_97 : decode cX1_fill 97 = .ok (.ifCond .eq 6, 3) := by decide +kernel
theorem dX1_fill_100 : decode cX1_fill 100 = .ok (.goto 22, 3) := by decide +kernel
theorem dX1_fill_103 : decode cX1_fill 103 = .ok (.aload_n 0, 1) := by decide +kernel
theorem dX1_fill_104 : decode cX1_fill 104 = .ok (.getfield 16, 3) := by decide +kernel
theorem dX1_fill_107 : decode cX1_fill 107 = .ok (.iload 6, 2) := by decide +kernel
theorem dX1_fill_109 : decode cX1_fill 109 = .ok (.iconst 1, 1) := by decide +kernel
theorem dX1_fill_110 : decode cX1_fill 110 = .ok (.bastore, 1) := by decide +kernel
theorem dX1_fill_111 : decode cX1_fill 111 = .ok (.aload_n 0, 1) := by decide +kernel
theorem dX1_fill_112 : decode cX1_fill 112 = .ok (.getfield 20, 3) := by decide +kernel
theorem dX1_fill_115 : decode cX1_fill 115 = .ok (.iload_n 1, 1) := by decide +kernel
theorem dX1_fill_116 : decode cX1_fill 116 = .ok (.iload 6, 2) := by decide +kernel
theorem dX1_fill_118 : decode cX1_fill 118 = .ok (.iastore, 1) := by decide +kernel
theorem dX1_fill_119 : decode cX1_fill 119 = .ok (.iinc 1 1, 3) := by decide +kernel
theorem dX1_fill_122 : decode cX1_fill 122 = .ok (.iinc 4 1, 3) := by decide +kernel
theorem dX1_fill_125 : decode cX1_fill 125 = .ok (.goto (-66), 3) := by decide +kernel
theorem dX1_fill_128 : decode cX1_fill 128 = .ok (.iinc 2 1, 3) := by decide +kernel
theorem dX1_fill_131 : decode cX1_fill 131 = .ok (.goto (-91), 3) := by decide +kernel
theorem dX1_fill_134 : decode cX1_fill 134 = .ok (.return_, 1) := by decide +kernel
theorem dX1_points_0 : decode cX1_points 0 = .ok (.iload_n 1, 1) := by decide +kernel
theorem dX1_points_1 : decode cX1_points 1 = .ok (.iconst 1, 1) := by decide +kernel
theorem dX1_points_2 : decode cX1_points 2 = .ok (.if_icmp .lt 9, 3) := by decide +kernel
theorem dX1_points_5 : decode cX1_points 5 = .ok (.iload_n 1, 1) := by decide +kernel
theorem dX1_points_6 : decode cX1_points 6 = .ok (.bipush 7, 2) := by decide +kernel
theorem dX1_points_8 : decode cX1_points 8 = .ok (.if_icmp .le 5, 3) := by decide +kernel
theorem dX1_points_11 : decode cX1_points 11 = .ok (.iconst 0, 1) := by decide +kernel
theorem dX1_points_12 : decode cX1_points 12 = .ok (.ireturn, 1) := by decide +kernel
theorem dX1_points_13 : decode cX1_points 13 = .ok (.aload_n 0, 1) := by decide +kernel
theorem dX1_points_14 : decode cX1_points 14 = .ok (.iload_n 1, 1) := by decide +kernel
theorem dX1_points_15 : decode cX1_points 15 = .ok (.putfield 23, 3) := by decide +kernel
theorem dX1_points_18 : decode cX1_points 18 = .ok (.aload_n 0, 1) := by decide +kernel
theorem dX1_points_19 : decode cX1_points 19 = .ok (.iconst 0, 1) := by decide +kernel
theorem dX1_points_20 : decode cX1_points 20 = .ok (.putfield 43, 3) := by decide +kernel
theorem dX1_points_23 : decode cX1_points 23 = .ok (.iconst 1, 1) := by decide +kernel
theorem dX1_points_24 : decode cX1_points 24 = .ok (.ireturn, 1) := by decide +kernel
theorem dX1_degree_0 : decode cX1_degree 0 = .ok (.aload_n 0, 1) := by decide +kernel
theorem dX1_degree_1 : decode cX1_degree 1 = .ok (.getfield 23, 3) := by decide +kernel
theorem dX1_degree_4 : decode cX1_degree 4 = .ok (.ireturn, 1) := by decide +kernel
set_option maxRecDepth 20000 in
theorem ggX1_add_X1_isPermutation : GoodIn wsX1_add wsX1_isPermutation := goodIn_r _ [7, 8, 9, 10, 6, 11, 12, 13, 14, 15, 16, 17, 18] (by decide +kernel) (by decide +kernel)
set_option maxRecDepth 20000 in
theorem gX1_add_X1_isPermutation : GoodIn wsX1_add (wsV RX1 52 RX1 yX1_isPermutation wsX1_isPermutation) := goodIn_app (goodIn_of _ (by decide +kernel)) ggX1_add_X1_isPermutation
theorem dX1_add_0 : decode cX1_add 0 = .ok (.aload_n 0, 1) := by decide +kernel
theorem dX1_add_1 : decode cX1_add 1 = .ok (.iload_n 1, 1) := by decide +kernel
theorem dX1_add_2 : decode cX1_add 2 = .ok (.invokevirtual 52, 3) := by decide +kernel
theorem dX1_add_5 : decode cX1_add 5 = .ok (.ifCond .ne 5, 3) := by decide +kernel
theorem dX1_add_8 : decode cX1_add 8 = .ok (.iconst (-1), 1) := by decide +kernel
theorem dX1_add_9 : decode cX1_add 9 = .ok (.ireturn, 1) := by decide +kernel
theorem dX1_add_10 : decode cX1_add 10 = .ok (.aload_n 0, 1) := by decide +kernel
theorem dX1_add_11 : decode cX1_add 11 = .ok (.getfield 43, 3) := by decide +kernel
theorem dX1_add_14 : decode cX1_add 14 = .ok (.bipush 12, 2) := by decide +kernel
theorem dX1_add_16 : decode cX1_add 16 = .ok (.if_icmp .ne 6, 3) := by decide +kernel
theorem dX1_add_19 : decode cX1_add 19 = .ok (.bipush (-2), 2) := by decide +kernel
theorem dX1_add_21 : decode cX1_add 21 = .ok (.ireturn, 1) := by decide +kernel
theorem dX1_add_22 : decode cX1_add 22 = .ok (.aload_n 0, 1) := by decide +kernel
theorem dX1_add_23 : decode cX1_add 23 = .ok (.getfield 13, 3) := by decide +kernel
theorem dX1_add_26 : decode cX1_add 26 = .ok (.aload_n 0, 1) := by decide +kernel
theorem dX1_add_27 : decode cX1_add 27 = .ok (.getfield 43, 3) := by decide +kernel
theorem dX1_add_30 : decode cX1_add 30 = .ok (.iload_n 1, 1) := by decide +kernel
theorem dX1_add_31 : decode cX1_add 31 = .ok (.iastore, 1) := by decide +kernel
theorem dX1_add_32 : decode cX1_add 32 = .ok (.aload_n 0, 1) := by decide +kernel
theorem dX1_add_33 : decode cX1_add 33 = .ok (.dup, 1) := by decide +kernel
theorem dX1_add_34 : decode cX1_add 34 = .ok (.getfield 43, 3) := by decide +kernel
theorem dX1_add_37 : decode cX1_add 37 = .ok (.iconst 1, 1) := by decide +kernel
theorem dX1_add_38 : decode cX1_add 38 = .ok (.iadd, 1) := by decide +kernel
theorem dX1_add_39 : decode cX1_add 39 = .ok (.putfield 43, 3) := by decide +kernel
theorem dX1_add_42 : decode cX1_add 42 = .ok (.aload_n 0, 1) := by decide +kernel
theorem dX1_add_43 : decode cX1_add 43 = .ok (.getfield 43, 3) := by decide +kernel
theorem dX1_add_46 : decode cX1_add 46 = .ok (.iconst 1, 1) := by decide +kernel
theorem dX1_add_47 : decode cX1_add 47 = .ok (.isub, 1) := by decide +kernel
theorem dX1_add_48 : decode cX1_add 48 = .ok (.ireturn, 1) := by decide +kernel
theorem dX1_drop_0 : decode cX1_drop 0 = .ok (.aload_n 0, 1) := by decide +kernel
theorem dX1_drop_1 : decode cX1_drop 1 = .ok (.getfield 43, 3) := by decide +kernel
theorem dX1_drop_4 : decode cX1_drop 4 = .ok (.ifCond .ne 5, 3) := by decide +kernel
theorem dX1_drop_7 : decode cX1_drop 7 = .ok (.iconst 0, 1) := by decide +kernel
theorem dX1_drop_8 : decode cX1_drop 8 = .ok (.ireturn, 1) := by decide +kernel
theorem dX1_drop_9 : decode cX1_drop 9 = .ok (.aload_n 0, 1) := by decide +kernel
theorem dX1_drop_10 : decode cX1_drop 10 = .ok (.dup, 1) := by decide +kernel
theorem dX1_drop_11 : decode cX1_drop 11 = .ok (.getfield 43, 3) := by decide +kernel
theorem dX1_drop_14 : decode cX1_drop 14 = .ok (.iconst 1, 1) := by decide +kernel
theorem dX1_drop_15 : decode cX1_drop 15 = .ok (.isub, 1) := by decide +kernel
theorem dX1_drop_16 : decode cX1_drop 16 = .ok (.putfield 43, 3) := by decide +kernel
theorem dX1_drop_19 : decode cX1_drop 19 = .ok (.iconst 1, 1) := by decide +kernel
theorem dX1_drop_20 : decode cX1_drop 20 = .ok (.ireturn, 1) := by decide +kernel
theorem dX1_generators_0 : decode cX1_generators 0 = .ok (.aload_n 0, 1) := by decide +kernel
theorem dX1_generators_1 : decode cX1_generators 1 = .ok (.getfield 43, 3) := by decide +kernel
theorem dX1_generators_4 : decode cX1_generators 4 = .ok (.ireturn, 1) := by decide +kernel
theorem dX1_generator_0 : decode cX1_generator 0 = .ok (.iload_n 1, 1) := by decide +kernel
theorem dX1_generator_1 : decode cX1_generator 1 = .ok (.ifCond .lt 20, 3) := by decide +kernel
theorem dX1_generator_4 : decode cX1_generator 4 = .ok (.iload_n 1, 1) := by decide +kernel
theorem dX1_generator_5 : decode cX1_generator 5 = .ok (.aload_n 0, 1) := by decide +kernel
theorem dX1_generator_6 : decode cX1_generator 6 = .ok (.getfield 43, 3) := by decide +kernel
theorem dX1_generator_9 : decode cX1_generator 9 = .ok (.if_icmp .ge 12, 3) := by decide +kernel
theorem dX1_generator_12 : decode cX1_generator 12 = .ok (.aload_n 0, 1) := by decide +kernel
theorem dX1_generator_13 : decode cX1_generator 13 = .ok (.getfield 13, 3) := by decide +kernel
theorem dX1_generator_16 : decode cX1_generator 16 = .ok (.iload_n 1, 1) := by decide +kernel
theorem dX1_generator_17 : decode cX1_generator 17 = .ok (.iaload, 1) := by decide +kernel
theorem dX1_generator_18 : decode cX1_generator 18 = .ok (.goto 4, 3) := by decide +kernel
theorem dX1_generator_21 : decode cX1_generator 21 = .ok (.iconst (-1), 1) := by decide +kernel
theorem dX1_generator_22 : decode cX1_generator 22 = .ok (.ireturn, 1) := by decide +kernel
set_option maxRecDepth 20000 in
theorem ggX1_product_X1_isPermutation : GoodIn wsX1_product wsX1_isPermutation := goodIn_r _ [5, 6, 7, 8, 4, 9, 14, 15, 16, 17, 18, 19, 20] (by decide +kernel) (by decide +kernel)
set_option maxRecDepth 20000 in
theorem gX1_product_X1_isPermutation : GoodIn wsX1_product (wsV RX1 52 RX1 yX1_isPermutation wsX1_isPermutation) := goodIn_app (goodIn_of _ (by decide +kernel)) ggX1_product_X1_isPermutation
set_option maxRecDepth 20000 in
theorem ggX1_product_X1_times : GoodIn wsX1_product wsX1_times := goodIn_r _ [13, 6, 7, 8, 4, 9, 14, 15, 16, 17, 18, 19, 20] (by decide +kernel) (by decide +kernel)
set_option maxRecDepth 20000 in
theorem gX1_product_X1_times : GoodIn wsX1_product (wsV RX1 46 RX1 yX1_times wsX1_times) := goodIn_app (goodIn_of _ (by decide +kernel)) ggX1_product_X1_times
theorem dX1_product_0 : decode cX1_product 0 = .ok (.aload_n 0, 1) := by decide +kernel
theorem dX1_product_1 : decode cX1_product 1 = .ok (.iload_n 1, 1) := by decide +kernel
theorem dX1_product_2 : decode cX1_product 2 = .ok (.invokevirtual 52, 3) := by decide +kernel
theorem dX1_product_5 : decode cX1_product 5 = .ok (.ifCond .eq 20, 3) := by decide +kernel
theorem dX1_product_8 : decode cX1_product 8 = .ok (.aload_n 0, 1) := by decide +kernel
theorem dX1_product_9 : decode cX1_product 9 = .ok (.iload_n 2, 1) := by decide +kernel
theorem dX1_product_10 : decode cX1_product 10 = .ok (.invokevirtual 52, 3) := by decide +kernel
theorem dX1_product_13 : decode cX1_product 13 = .ok (.ifCond .eq 12, 3) := by decide +kernel
theorem dX1_product_16 : decode cX1_product 16 = .ok (.aload_n 0, 1) := by decide +kernel
theorem dX1_product_17 : decode cX1_product 17 = .ok (.iload_n 1, 1) := by decide +kernel
theorem dX1_product_18 : decode cX1_product 18 = .ok (.iload_n 2, 1) := by decide +kernel
theorem dX1_product_19 : decode cX1_product 19 = .ok (.invokevirtual 46, 3) := by decide +kernel
theorem dX1_product_22 : decode cX1_product 22 = .ok (.goto 4, 3) := by decide +kernel
theorem dX1_product_25 : decode cX1_product 25 = .ok (.iconst (-1), 1) := by decide +kernel
theorem dX1_product_26 : decode cX1_product 26 = .ok (.ireturn, 1) := by decide +kernel
set_option maxRecDepth 20000 in
theorem ggX1_inverse_X1_isPermutation : GoodIn wsX1_inverse wsX1_isPermutation := goodIn_r _ [5, 6, 7, 8, 4, 9, 14, 15, 16, 17, 18, 19, 20] (by decide +kernel) (by decide +kernel)
set_option maxRecDepth 20000 in
theorem gX1_inverse_X1_isPermutation : GoodIn wsX1_inverse (wsV RX1 52 RX1 yX1_isPermutation wsX1_isPermutation) := goodIn_app (goodIn_of _ (by decide +kernel)) ggX1_inverse_X1_isPermutation
set_option maxRecDepth 20000 in
theorem ggX1_inverse_X1_back : GoodIn wsX1_inverse wsX1_back := goodIn_r _ [13, 6, 7, 8, 4, 9, 14, 15, 16, 17, 18, 19, 20] (by decide +kernel) (by decide +kernel)
set_option maxRecDepth 20000 in
theorem gX1_inverse_X1_back : GoodIn wsX1_inverse (wsV RX1 56 RX1 yX1_back wsX1_back) := goodIn_app (goodIn_of _ (by decide +kernel)) ggX1_inverse_X1_back
theorem dX1_inverse_0 : decode cX1_inverse 0 = .ok (.aload_n 0, 1) := by decide +kernel
theorem dX1_inverse_1 : decode cX1_inverse 1 = .ok (.iload_n 1, 1) := by decide +kernel
theorem dX1_inverse_2 : decode cX1_inverse 2 = .ok (.invokevirtual 52, 3) := by decide +kernel
theorem dX1_inverse_5 : decode cX1_inverse 5 = .ok (.ifCond .eq 11, 3) := by decide +kernel
theorem dX1_inverse_8 : decode cX1_inverse 8 = .ok (.aload_n 0, 1) := by decide +kernel
theorem dX1_inverse_9 : decode cX1_inverse 9 = .ok (.iload_n 1, 1) := by decide +kernel
theorem dX1_inverse_10 : decode cX1_inverse 10 = .ok (.invokevirtual 56, 3) := by decide +kernel
theorem dX1_inverse_13 : decode cX1_inverse 13 = .ok (.goto 4, 3) := by decide +kernel
theorem dX1_inverse_16 : decode cX1_inverse 16 = .ok (.iconst (-1), 1) := by decide +kernel
theorem dX1_inverse_17 : decode cX1_inverse 17 = .ok (.ireturn, 1) := by decide +kernel
theorem dX1_below_0 : decode cX1_below 0 = .ok (.iconst 0, 1) := by decide +kernel
theorem dX1_below_1 : decode cX1_below 1 = .ok (.istore_n 2, 1) := by decide +kernel
theorem dX1_below_2 : decode cX1_below 2 = .ok (.iconst 0, 1) := by decide +kernel
theorem dX1_below_3 : decode cX1_below 3 = .ok (.istore_n 3, 1) := by decide +kernel
theorem dX1_below_4 : decode cX1_below 4 = .ok (.iload_n 3, 1) := by decide +kernel
theorem dX1_below_5 : decode cX1_below 5 = .ok (.iload_n 1, 1) := by decide +kernel
theorem dX1_below_6 : decode cX1_below 6 = .ok (.if_icmp .ge 21, 3) := by decide +kernel
theorem dX1_below_9 : decode cX1_below 9 = .ok (.aload_n 0, 1) := by decide +kernel
theorem dX1_below_10 : decode cX1_below 10 = .ok (.getfield 16, 3) := by decide +kernel
theorem dX1_below_13 : decode cX1_below 13 = .ok (.iload_n 3, 1) := by decide +kernel
theorem dX1_below_14 : decode cX1_below 14 = .ok (.baload, 1) := by decide +kernel
theorem dX1_below_15 : decode cX1_below 15 = .ok (.ifCond .eq 6, 3) := by decide +kernel
theorem dX1_below_18 : decode cX1_below 18 = .ok (.iinc 2 1, 3) := by decide +kernel
theorem dX1_below_21 : decode cX1_below 21 = .ok (.iinc 3 1, 3) := by decide +kernel
theorem dX1_below_24 : decode cX1_below 24 = .ok (.goto (-20), 3) := by decide +kernel
theorem dX1_below_27 : decode cX1_below 27 = .ok (.iload_n 2, 1) := by decide +kernel
theorem dX1_below_28 : decode cX1_below 28 = .ok (.ireturn, 1) := by decide +kernel
set_option maxRecDepth 20000 in
theorem ggX1_order_X1_fill : GoodIn wsX1_order wsX1_fill := goodIn_r _ [5, 6, 7, 8, 9, 10, 11, 12, 4, 13, 14, 15, 16, 17, 18, 19, 20, 21, 22, 23, 24, 25, 26, 27, 28, 29, 30, 31, 32, 33, 42, 43, 44, 45, 46, 47, 48] (by decide +kernel) (by decide +kernel)
set_option maxRecDepth 20000 in
theorem gX1_order_X1_fill : GoodIn wsX1_order (wsV RX1 59 RX1 yX1_fill wsX1_fill) := goodIn_app (goodIn_of _ (by decide +kernel)) ggX1_order_X1_fill
set_option maxRecDepth 20000 in
theorem ggX1_order_X1_all : GoodIn wsX1_order wsX1_all := goodIn_r _ [37, 15, 14, 42, 43, 44, 45, 46, 47, 48] (by decide +kernel) (by decide +kernel)
set_option maxRecDepth 20000 in
theorem gX1_order_X1_all : GoodIn wsX1_order (wsV RX1 62 RX1 yX1_all wsX1_all) := goodIn_app (goodIn_of _ (by decide +kernel)) ggX1_order_X1_all
set_option maxRecDepth 20000 in
theorem ggX1_order_X1_below : GoodIn wsX1_order wsX1_below := goodIn_r _ [41, 6, 42, 43, 44, 45, 46, 47, 48] (by decide +kernel) (by decide +kernel)
set_option maxRecDepth 20000 in
theorem gX1_order_X1_below : GoodIn wsX1_order (wsV RX1 66 RX1 yX1_below wsX1_below) := goodIn_app (goodIn_of _ (by decide +kernel)) ggX1_order_X1_below
theorem dX1_order_0 : decode cX1_order 0 = .ok (.aload_n 0, 1) := by decide +kernel
theorem dX1_order_1 : decode cX1_order 1 = .ok (.invokevirtual 59, 3) := by decide +kernel
theorem dX1_order_4 : decode cX1_order 4 = .ok (.aload_n 0, 1) := by decide +kernel
theorem dX1_order_5 : decode cX1_order 5 = .ok (.aload_n 0, 1) := by decide +kernel
theorem dX1_order_6 : decode cX1_order 6 = .ok (.invokevirtual 62, 3) := by decide +kernel
theorem dX1_order_9 : decode cX1_order 9 = .ok (.invokevirtual 66, 3) := by decide +kernel
theorem dX1_order_12 : decode cX1_order 12 = .ok (.ireturn, 1) := by decide +kernel
set_option maxRecDepth 20000 in
theorem ggX1_contains_X1_isPermutation : GoodIn wsX1_contains wsX1_isPermutation := goodIn_r _ [6, 7, 8, 9, 5, 10, 38, 39, 40, 41, 42, 43, 44] (by decide +kernel) (by decide +kernel)
set_option maxRecDepth 20000 in
theorem gX1_contains_X1_isPermutation : GoodIn wsX1_contains (wsV RX1 52 RX1 yX1_isPermutation wsX1_isPermutation) := goodIn_app (goodIn_of _ (by decide +kernel)) ggX1_contains_X1_isPermutation
set_option maxRecDepth 20000 in
theorem ggX1_contains_X1_fill : GoodIn wsX1_contains wsX1_fill := goodIn_r _ [14, 1, 15, 16, 17, 18, 19, 20, 5, 21, 7, 22, 23, 24, 25, 26, 8, 9, 10, 27, 28, 29, 30, 31, 32, 33, 34, 35, 36, 37, 38, 39, 40, 41, 42, 43, 44] (by decide +kernel) (by decide +kernel)
set_option maxRecDepth 20000 in
theorem gX1_contains_X1_fill : GoodIn wsX1_contains (wsV RX1 59 RX1 yX1_fill wsX1_fill) := goodIn_app (goodIn_of _ (by decide +kernel)) ggX1_contains_X1_fill
set_option maxRecDepth 20000 in
theorem ggX1_contains_X1_numberOf : GoodIn wsX1_contains wsX1_numberOf := goodIn_r _ [37, 7, 22, 8, 9, 5, 10, 23, 24, 25, 26, 38, 39, 40, 41, 42, 43, 44] (by decide +kernel) (by decide +kernel)
set_option maxRecDepth 20000 in
theorem gX1_contains_X1_numberOf : GoodIn wsX1_contains (wsV RX1 49 RX1 yX1_numberOf wsX1_numberOf) := goodIn_app (goodIn_of _ (by decide +kernel)) ggX1_contains_X1_numberOf
theorem dX1_contains_0 : decode cX1_contains 0 = .ok (.aload_n 0, 1) := by decide +kernel
theorem dX1_contains_1 : decode cX1_contains 1 = .ok (.iload_n 1, 1) := by decide +kernel
theorem dX1_contains_2 : decode cX1_contains 2 = .ok (.invokevirtual 52, 3) := by decide +kernel
theorem dX1_contains_5 : decode cX1_contains 5 = .ok (.ifCond .ne 5, 3) := by decide +kernel
theorem dX1_contains_8 : decode cX1_contains 8 = .ok (.iconst 0, 1) := by decide +kernel
theorem dX1_contains_9 : decode cX1_contains 9 = .ok (.ireturn, 1) := by decide +kernel
theorem dX1_contains_10 : decode cX1_contains 10 = .ok (.aload_n 0, 1) := by decide +kernel
theorem dX1_contains_11 : decode cX1_contains 11 = .ok (.invokevirtual 59, 3) := by decide +kernel
theorem dX1_contains_14 : decode cX1_contains 14 = .ok (.aload_n 0, 1) := by decide +kernel
theorem dX1_contains_15 : decode cX1_contains 15 = .ok (.getfield 16, 3) := by decide +kernel
theorem dX1_contains_18 : decode cX1_contains 18 = .ok (.aload_n 0, 1) := by decide +kernel
theorem dX1_contains_19 : decode cX1_contains 19 = .ok (.iload_n 1, 1) := by decide +kernel
theorem dX1_contains_20 : decode cX1_contains 20 = .ok (.invokevirtual 49, 3) := by decide +kernel
theorem dX1_contains_23 : decode cX1_contains 23 = .ok (.baload, 1) := by decide +kernel
theorem dX1_contains_24 : decode cX1_contains 24 = .ok (.ireturn, 1) := by decide +kernel
set_option maxRecDepth 20000 in
theorem ggX1_element_X1_fill : GoodIn wsX1_element wsX1_fill := goodIn_r _ [7, 2, 8, 9, 10, 11, 12, 13, 6, 14, 15, 16, 17, 18, 19, 20, 21, 22, 23, 24, 25, 26, 27, 28, 29, 30, 31, 32, 33, 34, 43, 44, 45, 46, 47, 48, 49] (by decide +kernel) (by decide +kernel)
set_option maxRecDepth 20000 in
theorem gX1_element_X1_fill : GoodIn wsX1_element (wsV RX1 59 RX1 yX1_fill wsX1_fill) := goodIn_app (goodIn_of _ (by decide +kernel)) ggX1_element_X1_fill
set_option maxRecDepth 20000 in
theorem ggX1_element_X1_all : GoodIn wsX1_element wsX1_all := goodIn_r _ [38, 16, 15, 43, 44, 45, 46, 47, 48, 49] (by decide +kernel) (by decide +kernel)
set_option maxRecDepth 20000 in
theorem gX1_element_X1_all : GoodIn wsX1_element (wsV RX1 62 RX1 yX1_all wsX1_all) := goodIn_app (goodIn_of _ (by decide +kernel)) ggX1_element_X1_all
set_option maxRecDepth 20000 in
theorem ggX1_element_X1_below : GoodIn wsX1_element wsX1_below := goodIn_r _ [42, 2, 43, 44, 45, 46, 47, 48, 49] (by decide +kernel) (by decide +kernel)
set_option maxRecDepth 20000 in
theorem gX1_element_X1_below : GoodIn wsX1_element (wsV RX1 66 RX1 yX1_below wsX1_below) := goodIn_app (goodIn_of _ (by decide +kernel)) ggX1_element_X1_below
set_option maxRecDepth 20000 in
theorem ggX1_element_X1_permutation : GoodIn wsX1_element wsX1_permutation := goodIn_r _ [14, 15, 16, 17, 18, 19, 6, 20, 21, 22, 23, 24, 25, 26, 43, 44, 45, 46, 47, 48, 49] (by decide +kernel) (by decide +kernel)
set_option maxRecDepth 20000 in
theorem gX1_element_X1_permutation : GoodIn wsX1_element (wsV RX1 39 RX1 yX1_permutation wsX1_permutation) := goodIn_app (goodIn_of _ (by decide +kernel)) ggX1_element_X1_permutation
theorem dX1_element_0 : decode cX1_element 0 = .ok (.aload_n 0, 1) := by decide +kernel
theorem dX1_element_1 : decode cX1_element 1 = .ok (.invokevirtual 59, 3) := by decide +kernel
theorem dX1_element_4 : decode cX1_element 4 = .ok (.aload_n 0, 1) := by decide +kernel
theorem dX1_element_5 : decode cX1_element 5 = .ok (.iload_n 1, 1) := by decide +kernel
theorem dX1_element_6 : decode cX1_element 6 = .ok (.ifCond .lt 15, 3) := by decide +kernel
theorem dX1_element_9 : decode cX1_element 9 = .ok (.iload_n 1, 1) := by decide +kernel
theorem dX1_element_10 : decode cX1_element 10 = .ok (.aload_n 0, 1) := by decide +kernel
theorem dX1_element_11 : decode cX1_element 11 = .ok (.aload_n 0, 1) := by decide +kernel
theorem dX1_element_12 : decode cX1_element 12 = .ok (.invokevirtual 62, 3) := by decide +kernel
theorem dX1_element_15 : decode cX1_element 15 = .ok (.invokevirtual 66, 3) := by decide +kernel
theorem dX1_element_18 : decode cX1_element 18 = .ok (.if_icmp .lt 7, 3) := by decide +kernel
theorem dX1_element_21 : decode cX1_element 21 = .ok (.iconst 1, 1) := by decide +kernel
theorem dX1_element_22 : decode cX1_element 22 = .ok (.goto 4, 3) := by decide +kernel
theorem dX1_element_25 : decode cX1_element 25 = .ok (.iconst 0, 1) := by decide +kernel
theorem dX1_element_26 : decode cX1_element 26 = .ok (.putfield 69, 3) := by decide +kernel
theorem dX1_element_29 : decode cX1_element 29 = .ok (.aload_n 0, 1) := by decide +kernel
theorem dX1_element_30 : decode cX1_element 30 = .ok (.getfield 69, 3) := by decide +kernel
theorem dX1_element_33 : decode cX1_element 33 = .ok (.ifCond .le 5, 3) := by decide +kernel
theorem dX1_element_36 : decode cX1_element 36 = .ok (.iconst 0, 1) := by decide +kernel
theorem dX1_element_37 : decode cX1_element 37 = .ok (.ireturn, 1) := by decide +kernel
theorem dX1_element_38 : decode cX1_element 38 = .ok (.iconst 0, 1) := by decide +kernel
theorem dX1_element_39 : decode cX1_element 39 = .ok (.istore_n 2, 1) := by decide +kernel
theorem dX1_element_40 : decode cX1_element 40 = .ok (.iload_n 1, 1) := by decide +kernel
theorem dX1_element_41 : decode cX1_element 41 = .ok (.istore_n 3, 1) := by decide +kernel
theorem dX1_element_42 : decode cX1_element 42 = .ok (.iload_n 2, 1) := by decide +kernel
theorem dX1_element_43 : decode cX1_element 43 = .ok (.sipush 5040, 3) := by decide +kernel
theorem dX1_element_46 : decode cX1_element 46 = .ok (.if_icmp .ge 34, 3) := by decide +kernel
theorem dX1_element_49 : decode cX1_element 49 = .ok (.aload_n 0, 1) := by decide +kernel
theorem dX1_element_50 : decode cX1_element 50 = .ok (.getfield 16, 3) := by decide +kernel
theorem dX1_element_53 : decode cX1_element 53 = .ok (.iload_n 2, 1) := by decide +kernel
theorem dX1_element_54 : decode cX1_element 54 = .ok (.baload, 1) := by decide +kernel
theorem dX1_element_55 : decode cX1_element 55 = .ok (.ifCond .eq 7, 3) := by decide +kernel
theorem dX1_element_58 : decode cX1_element 58 = .ok (.iload_n 3, 1) := by decide +kernel
theorem dX1_element_59 : decode cX1_element 59 = .ok (.ifCond .le 21, 3) := by decide +kernel
theorem dX1_element_62 : decode cX1_element 62 = .ok (.aload_n 0, 1) := by decide +kernel
theorem dX1_element_63 : decode cX1_element 63 = .ok (.getfield 16, 3) := by decide +kernel
theorem dX1_element_66 : decode cX1_element 66 = .ok (.iload_n 2, 1) := by decide +kernel
theorem dX1_element_67 : decode cX1_element 67 = .ok (.baload, 1) := by decide +kernel
theorem dX1_element_68 : decode cX1_element 68 = .ok (.ifCond .eq 6, 3) := by decide +kernel
theorem dX1_element_71 : decode cX1_element 71 = .ok (.iinc 3 (-1), 3) := by decide +kernel
theorem dX1_element_74 : decode cX1_element 74 = .ok (.iinc 2 1, 3) := by decide +kernel
theorem dX1_element_77 : decode cX1_element 77 = .ok (.goto (-35), 3) := by decide +kernel
theorem dX1_element_80 : decode cX1_element 80 = .ok (.aload_n 0, 1) := by decide +kernel
theorem dX1_element_81 : decode cX1_element 81 = .ok (.iload_n 2, 1) := by decide +kernel
theorem dX1_element_82 : decode cX1_element 82 = .ok (.invokevirtual 39, 3) := by decide +kernel
theorem dX1_element_85 : decode cX1_element 85 = .ok (.ireturn, 1) := by decide +kernel
set_option maxRecDepth 20000 in
theorem ggX1_rank_X1_isPermutation : GoodIn wsX1_rank wsX1_isPermutation := goodIn_r _ [7, 8, 9, 10, 6, 11, 43, 44, 45, 46, 47, 48, 49] (by decide +kernel) (by decide +kernel)
set_option maxRecDepth 20000 in
theorem gX1_rank_X1_isPermutation : GoodIn wsX1_rank (wsV RX1 52 RX1 yX1_isPermutation wsX1_isPermutation) := goodIn_app (goodIn_of _ (by decide +kernel)) ggX1_rank_X1_isPermutation
set_option maxRecDepth 20000 in
theorem ggX1_rank_X1_fill : GoodIn wsX1_rank wsX1_fill := goodIn_r _ [15, 2, 16, 17, 18, 19, 20, 21, 6, 22, 8, 23, 24, 25, 26, 27, 9, 10, 11, 28, 29, 30, 31, 32, 33, 34, 35, 36, 37, 38, 43, 44, 45, 46, 47, 48, 49] (by decide +kernel) (by decide +kernel)
set_option maxRecDepth 20000 in
theorem gX1_rank_X1_fill : GoodIn wsX1_rank (wsV RX1 59 RX1 yX1_fill wsX1_fill) := goodIn_app (goodIn_of _ (by decide +kernel)) ggX1_rank_X1_fill
set_option maxRecDepth 20000 in
theorem ggX1_rank_X1_numberOf : GoodIn wsX1_rank wsX1_numberOf := goodIn_r _ [38, 8, 23, 9, 10, 6, 11, 24, 25, 26, 27, 43, 44, 45, 46, 47, 48, 49] (by decide +kernel) (by decide +kernel)
set_option maxRecDepth 20000 in
theorem gX1_rank_X1_numberOf : GoodIn wsX1_rank (wsV RX1 49 RX1 yX1_numberOf wsX1_numberOf) := goodIn_app (goodIn_of _ (by decide +kernel)) ggX1_rank_X1_numberOf
set_option maxRecDepth 20000 in
theorem ggX1_rank_X1_below : GoodIn wsX1_rank wsX1_below := goodIn_r _ [42, 2, 43, 44, 45, 46, 47, 48, 49] (by decide +kernel) (by decide +kernel)
set_option maxRecDepth 20000 in
theorem gX1_rank_X1_below : GoodIn wsX1_rank (wsV RX1 66 RX1 yX1_below wsX1_below) := goodIn_app (goodIn_of _ (by decide +kernel)) ggX1_rank_X1_below
theorem dX1_rank_0 : decode cX1_rank 0 = .ok (.aload_n 0, 1) := by decide +kernel
theorem dX1_rank_1 : decode cX1_rank 1 = .ok (.aload_n 0, 1) := by decide +kernel
theorem dX1_rank_2 : decode cX1_rank 2 = .ok (.iload_n 1, 1) := by decide +kernel
theorem dX1_rank_3 : decode cX1_rank 3 = .ok (.invokevirtual 52, 3) := by decide +kernel
theorem dX1_rank_6 : decode cX1_rank 6 = .ok (.ifCond .eq 7, 3) := by decide +kernel
theorem dX1_rank_9 : decode cX1_rank 9 = .ok (.iconst 0, 1) := by decide +kernel
theorem dX1_rank_10 : decode cX1_rank 10 = .ok (.goto 4, 3) := by decide +kernel
theorem dX1_rank_13 : decode cX1_rank 13 = .ok (.iconst 1, 1) := by decide +kernel
theorem dX1_rank_14 : decode cX1_rank 14 = .ok (.putfield 69, 3) := by decide +kernel
theorem dX1_rank_17 : decode cX1_rank 17 = .ok (.aload_n 0, 1) := by decide +kernel
theorem dX1_rank_18 : decode cX1_rank 18 = .ok (.getfield 69, 3) := by decide +kernel
theorem dX1_rank_21 : decode cX1_rank 21 = .ok (.ifCond .le 5, 3) := by decide +kernel
theorem dX1_rank_24 : decode cX1_rank 24 = .ok (.iconst 0, 1) := by decide +kernel
theorem dX1_rank_25 : decode cX1_rank 25 = .ok (.ireturn, 1) := by decide +kernel
theorem dX1_rank_26 : decode cX1_rank 26 = .ok (.aload_n 0, 1) := by decide +kernel
theorem dX1_rank_27 : decode cX1_rank 27 = .ok (.invokevirtual 59, 3) := by decide +kernel
theorem dX1_rank_30 : decode cX1_rank 30 = .ok (.aload_n 0, 1) := by decide +kernel
theorem dX1_rank_31 : decode cX1_rank 31 = .ok (.iload_n 1, 1) := by decide +kernel
theorem dX1_rank_32 : decode cX1_rank 32 = .ok (.invokevirtual 49, 3) := by decide +kernel
theorem dX1_rank_35 : decode cX1_rank 35 = .ok (.istore_n 2, 1) := by decide +kernel
theorem dX1_rank_36 : decode cX1_rank 36 = .ok (.aload_n 0, 1) := by decide +kernel
theorem dX1_rank_37 : decode cX1_rank 37 = .ok (.aload_n 0, 1) := by decide +kernel
theorem dX1_rank_38 : decode cX1_rank 38 = .ok (.getfield 16, 3) := by decide +kernel
theorem dX1_rank_41 : decode cX1_rank 41 = .ok (.iload_n 2, 1) := by decide +kernel
theorem dX1_rank_42 : decode cX1_rank 42 = .ok (.baload, 1) := by decide +kernel
theorem dX1_rank_43 : decode cX1_rank 43 = .ok (.ifCond .eq 7, 3) := by decide +kernel
theorem dX1_rank_46 : decode cX1_rank 46 = .ok (.iconst 0, 1) := by decide +kernel
theorem dX1_rank_47 : decode cX1_rank 47 = .ok (.goto 4, 3) := by decide +kernel
theorem dX1_rank_50 : decode cX1_rank 50 = .ok (.iconst 2, 1) := by decide +kernel
theorem dX1_rank_51 : decode cX1_rank 51 = .ok (.putfield 69, 3) := by decide +kernel
theorem dX1_rank_54 : decode cX1_rank 54 = .ok (.aload_n 0, 1) := by decide +kernel
theorem dX1_rank_55 : decode cX1_rank 55 = .ok (.getfield 69, 3) := by decide +kernel
theorem dX1_rank_58 : decode cX1_rank 58 = .ok (.ifCond .le 7, 3) := by decide +kernel
theorem dX1_rank_61 : decode cX1_rank 61 = .ok (.iconst 0, 1) := by decide +kernel
theorem dX1_rank_62 : decode cX1_rank 62 = .ok (.goto 8, 3) := by decide +kernel
theorem dX1_rank_65 : decode cX1_rank 65 = .ok (.aload_n 0, 1) := by decide +kernel
theorem dX1_rank_66 : decode cX1_rank 66 = .ok (.iload_n 2, 1) := by decide +kernel
theorem dX1_rank_67 : decode cX1_rank 67 = .ok (.invokevirtual 66, 3) := by decide +kernel
theorem dX1_rank_70 : decode cX1_rank 70 = .ok (.ireturn, 1) := by decide +kernel
set_option maxRecDepth 20000 in
theorem ggX1_least_X1_isPermutation : GoodIn wsX1_least wsX1_isPermutation := goodIn_r _ [7, 8, 9, 10, 6, 11, 43, 44, 45, 46, 47, 48, 49] (by decide +kernel) (by decide +kernel)
set_option maxRecDepth 20000 in
theorem gX1_least_X1_isPermutation : GoodIn wsX1_least (wsV RX1 52 RX1 yX1_isPermutation wsX1_isPermutation) := goodIn_app (goodIn_of _ (by decide +kernel)) ggX1_least_X1_isPermutation
set_option maxRecDepth 20000 in
theorem ggX1_least_X1_fill : GoodIn wsX1_least wsX1_fill := goodIn_r _ [15, 2, 16, 17, 18, 19, 20, 21, 6, 22, 8, 23, 24, 25, 26, 27, 9, 10, 11, 28, 29, 30, 31, 32, 33, 34, 35, 36, 37, 38, 43, 44, 45, 46, 47, 48, 49] (by decide +kernel) (by decide +kernel)
set_option maxRecDepth 20000 in
theorem gX1_least_X1_fill : GoodIn wsX1_least (wsV RX1 59 RX1 yX1_fill wsX1_fill) := goodIn_app (goodIn_of _ (by decide +kernel)) ggX1_least_X1_fill
set_option maxRecDepth 20000 in
theorem ggX1_least_X1_all : GoodIn wsX1_least wsX1_all := goodIn_r _ [42, 23, 8, 43, 44, 45, 46, 47, 48, 49] (by decide +kernel) (by decide +kernel)
set_option maxRecDepth 20000 in
theorem gX1_least_X1_all : GoodIn wsX1_least (wsV RX1 62 RX1 yX1_all wsX1_all) := goodIn_app (goodIn_of _ (by decide +kernel)) ggX1_least_X1_all
set_option maxRecDepth 20000 in
theorem ggX1_least_X1_permutation : GoodIn wsX1_least wsX1_permutation := goodIn_r _ [22, 8, 23, 24, 25, 26, 6, 27, 9, 10, 11, 28, 29, 30, 43, 44, 45, 46, 47, 48, 49] (by decide +kernel) (by decide +kernel)
set_option maxRecDepth 20000 in
theorem gX1_least_X1_permutation : GoodIn wsX1_least (wsV RX1 39 RX1 yX1_permutation wsX1_permutation) := goodIn_app (goodIn_of _ (by decide +kernel)) ggX1_least_X1_permutation
set_option maxRecDepth 20000 in
theorem ggX1_least_X1_times : GoodIn wsX1_least wsX1_times := goodIn_r _ [34, 8, 9, 10, 6, 11, 43, 44, 45, 46, 47, 48, 49] (by decide +kernel) (by decide +kernel)
set_option maxRecDepth 20000 in
theorem gX1_least_X1_times : GoodIn wsX1_least (wsV RX1 46 RX1 yX1_times wsX1_times) := goodIn_app (goodIn_of _ (by decide +kernel)) ggX1_least_X1_times
set_option maxRecDepth 20000 in
theorem ggX1_least_X1_numberOf : GoodIn wsX1_least wsX1_numberOf := goodIn_r _ [38, 8, 23, 9, 10, 6, 11, 24, 25, 26, 27, 43, 44, 45, 46, 47, 48, 49] (by decide +kernel) (by decide +kernel)
set_option maxRecDepth 20000 in
theorem gX1_least_X1_numberOf : GoodIn wsX1_least (wsV RX1 49 RX1 yX1_numberOf wsX1_numberOf) := goodIn_app (goodIn_of _ (by decide +kernel)) ggX1_least_X1_numberOf
theorem dX1_least_0 : decode cX1_least 0 = .ok (.aload_n 0, 1) := by decide +kernel
theorem dX1_least_1 : decode cX1_least 1 = .ok (.aload_n 0, 1) := by decide +kernel
theorem dX1_least_2 : decode cX1_least 2 = .ok (.iload_n 1, 1) := by decide +kernel
theorem dX1_least_3 : decode cX1_least 3 = .ok (.invokevirtual 52, 3) := by decide +kernel
theorem dX1_least_6 : decode cX1_least 6 = .ok (.ifCond .eq 7, 3) := by decide +kernel
theorem dX1_least_9 : decode cX1_least 9 = .ok (.iconst 0, 1) := by decide +kernel
theorem dX1_least_10 : decode cX1_least 10 = .ok (.goto 4, 3) := by decide +kernel
theorem dX1_least_13 : decode cX1_least 13 = .ok (.iconst 1, 1) := by decide +kernel
theorem dX1_least_14 : decode cX1_least 14 = .ok (.putfield 69, 3) := by decide +kernel
theorem dX1_least_17 : decode cX1_least 17 = .ok (.aload_n 0, 1) := by decide +kernel
theorem dX1_least_18 : decode cX1_least 18 = .ok (.getfield 69, 3) := by decide +kernel
theorem dX1_least_21 : decode cX1_least 21 = .ok (.ifCond .le 5, 3) := by decide +kernel
theorem dX1_least_24 : decode cX1_least 24 = .ok (.iconst 0, 1) := by decide +kernel
theorem dX1_least_25 : decode cX1_least 25 = .ok (.ireturn, 1) := by decide +kernel
theorem dX1_least_26 : decode cX1_least 26 = .ok (.aload_n 0, 1) := by decide +kernel
theorem dX1_least_27 : decode cX1_least 27 = .ok (.invokevirtual 59, 3) := by decide +kernel
theorem dX1_least_30 : decode cX1_least 30 = .ok (.sipush 5040, 3) := by decide +kernel
theorem dX1_least_33 : decode cX1_least 33 = .ok (.istore_n 2, 1) := by decide +kernel
theorem dX1_least_34 : decode cX1_least 34 = .ok (.iconst 0, 1) := by decide +kernel
theorem dX1_least_35 : decode cX1_least 35 = .ok (.istore_n 3, 1) := by decide +kernel
theorem dX1_least_36 : decode cX1_least 36 = .ok (.iload_n 3, 1) := by decide +kernel
theorem dX1_least_37 : decode cX1_least 37 = .ok (.aload_n 0, 1) := by decide +kernel
theorem dX1_least_38 : decode cX1_least 38 = .ok (.invokevirtual 62, 3) := by decide +kernel
theorem dX1_least_41 : decode cX1_least 41 = .ok (.if_icmp .ge 50, 3) := by decide +kernel
theorem dX1_least_44 : decode cX1_least 44 = .ok (.aload_n 0, 1) := by decide +kernel
theorem dX1_least_45 : decode cX1_least 45 = .ok (.getfield 16, 3) := by decide +kernel
theorem dX1_least_48 : decode cX1_least 48 = .ok (.iload_n 3, 1) := by decide +kernel
theorem dX1_least_49 : decode cX1_least 49 = .ok (.baload, 1) := by decide +kernel
theorem dX1_least_50 : decode cX1_least 50 = .ok (.ifCond .ne 6, 3) := by decide +kernel
theorem dX1_least_53 : decode cX1_least 53 = .ok (.goto 32, 3) := by decide +kernel
theorem dX1_least_56 : decode cX1_least 56 = .ok (.aload_n 0, 1) := by decide +kernel
theorem dX1_least_57 : decode cX1_least 57 = .ok (.iload_n 3, 1) := by decide +kernel
theorem dX1_least_58 : decode cX1_least 58 = .ok (.invokevirtual 39, 3) := by decide +kernel
theorem dX1_least_61 : decode cX1_least 61 = .ok (.istore 4, 2) := by decide +kernel
theorem dX1_least_63 : decode cX1_least 63 = .ok (.aload_n 0, 1) := by decide +kernel
theorem dX1_least_64 : decode cX1_least 64 = .ok (.aload_n 0, 1) := by decide +kernel
theorem dX1_least_65 : decode cX1_least 65 = .ok (.iload 4, 2) := by decide +kernel
theorem dX1_least_67 : decode cX1_least 67 = .ok (.iload_n 1, 1) := by decide +kernel
theorem dX1_least_68 : decode cX1_least 68 = .ok (.invokevirtual 46, 3) := by decide +kernel
theorem dX1_least_71 : decode cX1_least 71 = .ok (.invokevirtual 49, 3) := by decide +kernel
theorem dX1_least_74 : decode cX1_least 74 = .ok (.istore 5, 2) := by decide +kernel
theorem dX1_least_76 : decode cX1_least 76 = .ok (.iload 5, 2) := by decide +kernel
theorem dX1_least_78 : decode cX1_least 78 = .ok (.iload_n 2, 1) := by decide +kernel
theorem dX1_least_79 : decode cX1_least 79 = .ok (.if_icmp .ge 6, 3) := by decide +kernel
theorem dX1_least_82 : decode cX1_least 82 = .ok (.iload 5, 2) := by decide +kernel
theorem dX1_least_84 : decode cX1_least 84 = .ok (.istore_n 2, 1) := by decide +kernel
theorem dX1_least_85 : decode cX1_least 85 = .ok (.iinc 3 1, 3) := by decide +kernel
theorem dX1_least_88 : decode cX1_least 88 = .ok (.goto (-52), 3) := by decide +kernel
theorem dX1_least_91 : decode cX1_least 91 = .ok (.aload_n 0, 1) := by decide +kernel
theorem dX1_least_92 : decode cX1_least 92 = .ok (.iload_n 2, 1) := by decide +kernel
theorem dX1_least_93 : decode cX1_least 93 = .ok (.invokevirtual 39, 3) := by decide +kernel
theorem dX1_least_96 : decode cX1_least 96 = .ok (.ireturn, 1) := by decide +kernel
set_option maxRecDepth 20000 in
theorem ggX1_orbit_X1_fill : GoodIn wsX1_orbit wsX1_fill := goodIn_r _ [7, 2, 8, 9, 10, 11, 12, 13, 6, 14, 1, 15, 16, 17, 18, 19, 20, 21, 22, 23, 24, 25, 26, 27, 28, 29, 30, 31, 32, 33, 38, 39, 40, 41, 42, 43, 44] (by decide +kernel) (by decide +kernel)
set_option maxRecDepth 20000 in
theorem gX1_orbit_X1_fill : GoodIn wsX1_orbit (wsV RX1 59 RX1 yX1_fill wsX1_fill) := goodIn_app (goodIn_of _ (by decide +kernel)) ggX1_orbit_X1_fill
set_option maxRecDepth 20000 in
theorem ggX1_orbit_X1_all : GoodIn wsX1_orbit wsX1_all := goodIn_r _ [37, 15, 1, 38, 39, 40, 41, 42, 43, 44] (by decide +kernel) (by decide +kernel)
set_option maxRecDepth 20000 in
theorem gX1_orbit_X1_all : GoodIn wsX1_orbit (wsV RX1 62 RX1 yX1_all wsX1_all) := goodIn_app (goodIn_of _ (by decide +kernel)) ggX1_orbit_X1_all
set_option maxRecDepth 20000 in
theorem ggX1_orbit_X1_permutation : GoodIn wsX1_orbit wsX1_permutation := goodIn_r _ [14, 1, 15, 16, 17, 18, 6, 19, 20, 21, 22, 23, 24, 25, 38, 39, 40, 41, 42, 43, 44] (by decide +kernel) (by decide +kernel)
set_option maxRecDepth 20000 in
theorem gX1_orbit_X1_permutation : GoodIn wsX1_orbit (wsV RX1 39 RX1 yX1_permutation wsX1_permutation) := goodIn_app (goodIn_of _ (by decide +kernel)) ggX1_orbit_X1_permutation
set_option maxRecDepth 20000 in
theorem ggX1_orbit_X1_image : GoodIn wsX1_orbit wsX1_image := goodIn_r _ [22] (by decide +kernel) (by decide +kernel)
set_option maxRecDepth 20000 in
theorem gX1_orbit_X1_image : GoodIn wsX1_orbit (va_wsS RX1 27 yX1_image wsX1_image) := goodIn_app (goodIn_of _ (by decide +kernel)) ggX1_orbit_X1_image
theorem dX1_orbit_0 : decode cX1_orbit 0 = .ok (.iload_n 1, 1) := by decide +kernel
theorem dX1_orbit_1 : decode cX1_orbit 1 = .ok (.ifCond .lt 11, 3) := by decide +kernel
theorem dX1_orbit_4 : decode cX1_orbit 4 = .ok (.iload_n 1, 1) := by decide +kernel
theorem dX1_orbit_5 : decode cX1_orbit 5 = .ok (.aload_n 0, 1) := by decide +kernel
theorem dX1_orbit_6 : decode cX1_orbit 6 = .ok (.getfield 23, 3) := by decide +kernel
theorem dX1_orbit_9 : decode cX1_orbit 9 = .ok (.if_icmp .lt 5, 3) := by decide +kernel
theorem dX1_orbit_12 : decode cX1_orbit 12 = .ok (.iconst 0, 1) := by decide +kernel
theorem dX1_orbit_13 : decode cX1_orbit 13 = .ok (.ireturn, 1) := by decide +kernel
theorem dX1_orbit_14 : decode cX1_orbit 14 = .ok (.aload_n 0, 1) := by decide +kernel
theorem dX1_orbit_15 : decode cX1_orbit 15 = .ok (.invokevirtual 59, 3) := by decide +kernel
theorem dX1_orbit_18 : decode cX1_orbit 18 = .ok (.iconst 0, 1) := by decide +kernel
theorem dX1_orbit_19 : decode cX1_orbit 19 = .ok (.istore_n 2, 1) := by decide +kernel
theorem dX1_orbit_20 : decode cX1_orbit 20 = .ok (.iconst 0, 1) := by decide +kernel
theorem dX1_orbit_21 : decode cX1_orbit 21 = .ok (.istore_n 3, 1) := by decide +kernel
theorem dX1_orbit_22 : decode cX1_orbit 22 = .ok (.iload_n 3, 1) := by decide +kernel
theorem dX1_orbit_23 : decode cX1_orbit 23 = .ok (.aload_n 0, 1) := by decide +kernel
theorem dX1_orbit_24 : decode cX1_orbit 24 = .ok (.invokevirtual 62, 3) := by decide +kernel
theorem dX1_orbit_27 : decode cX1_orbit 27 = .ok (.if_icmp .ge 39, 3) := by decide +kernel
theorem dX1_orbit_30 : decode cX1_orbit 30 = .ok (.aload_n 0, 1) := by decide +kernel
theorem dX1_orbit_31 : decode cX1_orbit 31 = .ok (.getfield 16, 3) := by decide +kernel
theorem dX1_orbit_34 : decode cX1_orbit 34 = .ok (.iload_n 3, 1) := by decide +kernel
theorem dX1_orbit_35 : decode cX1_orbit 35 = .ok (.baload, 1) := by decide +kernel
theorem dX1_orbit_36 : decode cX1_orbit 36 = .ok (.ifCond .ne 6, 3) := by decide +kernel
theorem dX1_orbit_39 : decode cX1_orbit 39 = .ok (.goto 21, 3) := by decide +kernel
theorem dX1_orbit_42 : decode cX1_orbit 42 = .ok (.aload_n 0, 1) := by decide +kernel
theorem dX1_orbit_43 : decode cX1_orbit 43 = .ok (.iload_n 3, 1) := by decide +kernel
theorem dX1_orbit_44 : decode cX1_orbit 44 = .ok (.invokevirtual 39, 3) := by decide +kernel
theorem dX1_orbit_47 : decode cX1_orbit 47 = .ok (.istore 4, 2) := by decide +kernel
theorem dX1_orbit_49 : decode cX1_orbit 49 = .ok (.iload_n 2, 1) := by decide +kernel
theorem dX1_orbit_50 : decode cX1_orbit 50 = .ok (.iconst 1, 1) := by decide +kernel
theorem dX1_orbit_51 : decode cX1_orbit 51 = .ok (.iload 4, 2) := by decide +kernel
theorem dX1_orbit_53 : decode cX1_orbit 53 = .ok (.iload_n 1, 1) := by decide +kernel
theorem dX1_orbit_54 : decode cX1_orbit 54 = .ok (.invokestatic 27, 3) := by decide +kernel
theorem dX1_orbit_57 : decode cX1_orbit 57 = .ok (.ishl, 1) := by decide +kernel
theorem dX1_orbit_58 : decode cX1_orbit 58 = .ok (.ior, 1) := by decide +kernel
theorem dX1_orbit_59 : decode cX1_orbit 59 = .ok (.istore_n 2, 1) := by decide +kernel
theorem dX1_orbit_60 : decode cX1_orbit 60 = .ok (.iinc 3 1, 3) := by decide +kernel
theorem dX1_orbit_63 : decode cX1_orbit 63 = .ok (.goto (-41), 3) := by decide +kernel
theorem dX1_orbit_66 : decode cX1_orbit 66 = .ok (.iload_n 2, 1) := by decide +kernel
theorem dX1_orbit_67 : decode cX1_orbit 67 = .ok (.ireturn, 1) := by decide +kernel
set_option maxRecDepth 20000 in
theorem ggX1_fixing_X1_fill : GoodIn wsX1_fixing wsX1_fill := goodIn_r _ [7, 2, 8, 9, 10, 11, 12, 13, 6, 14, 1, 15, 16, 17, 18, 19, 20, 21, 22, 23, 24, 25, 26, 27, 28, 29, 30, 31, 32, 33, 38, 39, 40, 41, 42, 43, 44] (by decide +kernel) (by decide +kernel)
set_option maxRecDepth 20000 in
theorem gX1_fixing_X1_fill : GoodIn wsX1_fixing (wsV RX1 59 RX1 yX1_fill wsX1_fill) := goodIn_app (goodIn_of _ (by decide +kernel)) ggX1_fixing_X1_fill
set_option maxRecDepth 20000 in
theorem ggX1_fixing_X1_all : GoodIn wsX1_fixing wsX1_all := goodIn_r _ [37, 15, 1, 38, 39, 40, 41, 42, 43, 44] (by decide +kernel) (by decide +kernel)
set_option maxRecDepth 20000 in
theorem gX1_fixing_X1_all : GoodIn wsX1_fixing (wsV RX1 62 RX1 yX1_all wsX1_all) := goodIn_app (goodIn_of _ (by decide +kernel)) ggX1_fixing_X1_all
set_option maxRecDepth 20000 in
theorem ggX1_fixing_X1_permutation : GoodIn wsX1_fixing wsX1_permutation := goodIn_r _ [14, 1, 15, 16, 17, 18, 6, 19, 20, 21, 22, 23, 24, 25, 38, 39, 40, 41, 42, 43, 44] (by decide +kernel) (by decide +kernel)
set_option maxRecDepth 20000 in
theorem gX1_fixing_X1_permutation : GoodIn wsX1_fixing (wsV RX1 39 RX1 yX1_permutation wsX1_permutation) := goodIn_app (goodIn_of _ (by decide +kernel)) ggX1_fixing_X1_permutation
set_option maxRecDepth 20000 in
theorem ggX1_fixing_X1_image : GoodIn wsX1_fixing wsX1_image := goodIn_r _ [22] (by decide +kernel) (by decide +kernel)
set_option maxRecDepth 20000 in
theorem gX1_fixing_X1_image : GoodIn wsX1_fixing (va_wsS RX1 27 yX1_image wsX1_image) := goodIn_app (goodIn_of _ (by decide +kernel)) ggX1_fixing_X1_image
theorem dX1_fixing_0 : decode cX1_fixing 0 = .ok (.iload_n 1, 1) := by decide +kernel
theorem dX1_fixing_1 : decode cX1_fixing 1 = .ok (.ifCond .lt 11, 3) := by decide +kernel
theorem dX1_fixing_4 : decode cX1_fixing 4 = .ok (.iload_n 1, 1) := by decide +kernel
theorem dX1_fixing_5 : decode cX1_fixing 5 = .ok (.aload_n 0, 1) := by decide +kernel
theorem dX1_fixing_6 : decode cX1_fixing 6 = .ok (.getfield 23, 3) := by decide +kernel
theorem dX1_fixing_9 : decode cX1_fixing 9 = .ok (.if_icmp .le 5, 3) := by decide +kernel
theorem dX1_fixing_12 : decode cX1_fixing 12 = .ok (.iconst 0, 1) := by decide +kernel
theorem dX1_fixing_13 : decode cX1_fixing 13 = .ok (.ireturn, 1) := by decide +kernel
theorem dX1_fixing_14 : decode cX1_fixing 14 = .ok (.aload_n 0, 1) := by decide +kernel
theorem dX1_fixing_15 : decode cX1_fixing 15 = .ok (.invokevirtual 59, 3) := by decide +kernel
theorem dX1_fixing_18 : decode cX1_fixing 18 = .ok (.iconst 0, 1) := by decide +kernel
theorem dX1_fixing_19 : decode cX1_fixing 19 = .ok (.istore_n 2, 1) := by decide +kernel
theorem dX1_fixing_20 : decode cX1_fixing 20 = .ok (.iconst 0, 1) := by decide +kernel
theorem dX1_fixing_21 : decode cX1_fixing 21 = .ok (.istore_n 3, 1) := by decide +kernel
theorem dX1_fixing_22 : decode cX1_fixing 22 = .ok (.iload_n 3, 1) := by decide +kernel
theorem dX1_fixing_23 : decode cX1_fixing 23 = .ok (.aload_n 0, 1) := by decide +kernel
theorem dX1_fixing_24 : decode cX1_fixing 24 = .ok (.invokevirtual 62, 3) := by decide +kernel
theorem dX1_fixing_27 : decode cX1_fixing 27 = .ok (.if_icmp .ge 69, 3) := by decide +kernel
theorem dX1_fixing_30 : decode cX1_fixing 30 = .ok (.aload_n 0, 1) := by decide +kernel
theorem dX1_fixing_31 : decode cX1_fixing 31 = .ok (.getfield 16, 3) := by decide +kernel
theorem dX1_fixing_34 : decode cX1_fixing 34 = .ok (.iload_n 3, 1) := by decide +kernel
theorem dX1_fixing_35 : decode cX1_fixing 35 = .ok (.baload, 1) := by decide +kernel
theorem dX1_fixing_36 : decode cX1_fixing 36 = .ok (.ifCond .ne 6, 3) := by decide +kernel
theorem dX1_fixing_39 : decode cX1_fixing 39 = .ok (.goto 51, 3) := by decide +kernel
theorem dX1_fixing_42 : decode cX1_fixing 42 = .ok (.aload_n 0, 1) := by decide +kernel
theorem dX1_fixing_43 : decode cX1_fixing 43 = .ok (.iload_n 3, 1) := by decide +kernel
theorem dX1_fixing_44 : decode cX1_fixing 44 = .ok (.invokevirtual 39, 3) := by decide +kernel
theorem dX1_fixing_47 : decode cX1_fixing 47 = .ok (.istore 4, 2) := by decide +kernel
theorem dX1_fixing_49 : decode cX1_fixing 49 = .ok (.iconst 1, 1) := by decide +kernel
theorem dX1_fixing_50 : decode cX1_fixing 50 = .ok (.istore 5, 2) := by decide +kernel
theorem dX1_fixing_52 : decode cX1_fixing 52 = .ok (.iconst 0, 1) := by decide +kernel
theorem dX1_fixing_53 : decode cX1_fixing 53 = .ok (.istore 6, 2) := by decide +kernel
theorem dX1_fixing_55 : decode cX1_fixing 55 = .ok (.iload 6, 2) := by decide +kernel
theorem dX1_fixing_57 : decode cX1_fixing 57 = .ok (.iload_n 1, 1) := by decide +kernel
theorem dX1_fixing_58 : decode cX1_fixing 58 = .ok (.if_icmp .ge 24, 3) := by decide +kernel
theorem dX1_fixing_61 : decode cX1_fixing 61 = .ok (.iload 4, 2) := by decide +kernel
theorem dX1_fixing_63 : decode cX1_fixing 63 = .ok (.iload 6, 2) := by decide +kernel
theorem dX1_fixing_65 : decode cX1_fixing 65 = .ok (.invokestatic 27, 3) := by decide +kernel
theorem dX1_fixing_68 : decode cX1_fixing 68 = .ok (.iload 6, 2) := by decide +kernel
theorem dX1_fixing_70 : decode cX1_fixing 70 = .ok (.if_icmp .eq 6, 3) := by decide +kernel
theorem dX1_fixing_73 : decode cX1_fixing 73 = .ok (.iconst 0, 1) := by decide +kernel
theorem dX1_fixing_74 : decode cX1_fixing 74 = .ok (.istore 5, 2) := by decide +kernel
theorem dX1_fixing_76 : decode cX1_fixing 76 = .ok (.iinc 6 1, 3) := by decide +kernel
theorem dX1_fixing_79 : decode cX1_fixing 79 = .ok (.goto (-24), 3) := by decide +kernel
theorem dX1_fixing_82 : decode cX1_fixing 82 = .ok (.iload 5, 2) := by decide +kernel
theorem dX1_fixing_84 : decode cX1_fixing 84 = .ok (.ifCond .eq 6, 3) := by decide +kernel
theorem dX1_fixing_87 : decode cX1_fixing 87 = .ok (.iinc 2 1, 3) := by decide +kernel
theorem dX1_fixing_90 : decode cX1_fixing 90 = .ok (.iinc 3 1, 3) := by decide +kernel
theorem dX1_fixing_93 : decode cX1_fixing 93 = .ok (.goto (-71), 3) := by decide +kernel
theorem dX1_fixing_96 : decode cX1_fixing 96 = .ok (.iload_n 2, 1) := by decide +kernel
theorem dX1_fixing_97 : decode cX1_fixing 97 = .ok (.ireturn, 1) := by decide +kernel
set_option maxRecDepth 20000 in
theorem ggX1_even_X1_fill : GoodIn wsX1_even wsX1_fill := goodIn_r _ [7, 1, 8, 9, 10, 11, 12, 13, 6, 14, 2, 15, 16, 17, 18, 19, 20, 21, 22, 23, 24, 25, 26, 27, 28, 29, 30, 31, 32, 33, 38, 39, 40, 41, 42, 43, 44] (by decide +kernel) (by decide +kernel)
set_option maxRecDepth 20000 in
theorem gX1_even_X1_fill : GoodIn wsX1_even (wsV RX1 59 RX1 yX1_fill wsX1_fill) := goodIn_app (goodIn_of _ (by decide +kernel)) ggX1_even_X1_fill
set_option maxRecDepth 20000 in
theorem ggX1_even_X1_all : GoodIn wsX1_even wsX1_all := goodIn_r _ [37, 15, 2, 38, 39, 40, 41, 42, 43, 44] (by decide +kernel) (by decide +kernel)
set_option maxRecDepth 20000 in
theorem gX1_even_X1_all : GoodIn wsX1_even (wsV RX1 62 RX1 yX1_all wsX1_all) := goodIn_app (goodIn_of _ (by decide +kernel)) ggX1_even_X1_all
set_option maxRecDepth 20000 in
theorem ggX1_even_X1_permutation : GoodIn wsX1_even wsX1_permutation := goodIn_r _ [14, 2, 15, 16, 17, 18, 6, 19, 20, 21, 22, 23, 24, 25, 38, 39, 40, 41, 42, 43, 44] (by decide +kernel) (by decide +kernel)
set_option maxRecDepth 20000 in
theorem gX1_even_X1_permutation : GoodIn wsX1_even (wsV RX1 39 RX1 yX1_permutation wsX1_permutation) := goodIn_app (goodIn_of _ (by decide +kernel)) ggX1_even_X1_permutation
set_option maxRecDepth 20000 in
theorem ggX1_even_X1_image : GoodIn wsX1_even wsX1_image := goodIn_r _ [22] (by decide +kernel) (by decide +kernel)
set_option maxRecDepth 20000 in
theorem gX1_even_X1_image : GoodIn wsX1_even (va_wsS RX1 27 yX1_image wsX1_image) := goodIn_app (goodIn_of _ (by decide +kernel)) ggX1_even_X1_image
theorem dX1_even_0 : decode cX1_even 0 = .ok (.aload_n 0, 1) := by decide +kernel
theorem dX1_even_1 : decode cX1_even 1 = .ok (.invokevirtual 59, 3) := by decide +kernel
theorem dX1_even_4 : decode cX1_even 4 = .ok (.iconst 0, 1) := by decide +kernel
theorem dX1_even_5 : decode cX1_even 5 = .ok (.istore_n 1, 1) := by decide +kernel
theorem dX1_even_6 : decode cX1_even 6 = .ok (.iconst 0, 1) := by decide +kernel
theorem dX1_even_7 : decode cX1_even 7 = .ok (.istore_n 2, 1) := by decide +kernel
theorem dX1_even_8 : decode cX1_even 8 = .ok (.iload_n 2, 1) := by decide +kernel
theorem dX1_even_9 : decode cX1_even 9 = .ok (.aload_n 0, 1) := by decide +kernel
theorem dX1_even_10 : decode cX1_even 10 = .ok (.invokevirtual 62, 3) := by decide +kernel
theorem dX1_even_13 : decode cX1_even 13 = .ok (.if_icmp .ge 97, 3) := by decide +kernel
theorem dX1_even_16 : decode cX1_even 16 = .ok (.aload_n 0, 1) := by decide +kernel
theorem dX1_even_17 : decode cX1_even 17 = .ok (.getfield 16, 3) := by decide +kernel
theorem dX1_even_20 : decode cX1_even 20 = .ok (.iload_n 2, 1) := by decide +kernel
theorem dX1_even_21 : decode cX1_even 21 = .ok (.baload, 1) := by decide +kernel
theorem dX1_even_22 : decode cX1_even 22 = .ok (.ifCond .ne 6, 3) := by decide +kernel
theorem dX1_even_25 : decode cX1_even 25 = .ok (.goto 79, 3) := by decide +kernel
theorem dX1_even_28 : decode cX1_even 28 = .ok (.aload_n 0, 1) := by decide +kernel
theorem dX1_even_29 : decode cX1_even 29 = .ok (.iload_n 2, 1) := by decide +kernel
theorem dX1_even_30 : decode cX1_even 30 = .ok (.invokevirtual 39, 3) := by decide +kernel
theorem dX1_even_33 : decode cX1_even 33 = .ok (.istore_n 3, 1) := by decide +kernel
theorem dX1_even_34 : decode cX1_even 34 = .ok (.iconst 0, 1) := by decide +kernel
theorem dX1_even_35 : decode cX1_even 35 = .ok (.istore 4, 2) := by decide +kernel
theorem dX1_even_37 : decode cX1_even 37 = .ok (.iconst 0, 1) := by decide +kernel
theorem dX1_even_38 : decode cX1_even 38 = .ok (.istore 5, 2) := by decide +kernel
theorem dX1_even_40 : decode cX1_even 40 = .ok (.iload 5, 2) := by decide +kernel
theorem dX1_even_42 : decode cX1_even 42 = .ok (.aload_n 0, 1) := by decide +kernel
theorem dX1_even_43 : decode cX1_even 43 = .ok (.getfield 23, 3) := by decide +kernel
theorem dX1_even_46 : decode cX1_even 46 = .ok (.if_icmp .ge 48, 3) := by decide +kernel
theorem dX1_even_49 : decode cX1_even 49 = .ok (.iload 5, 2) := by decide +kernel
theorem dX1_even_51 : decode cX1_even 51 = .ok (.iconst 1, 1) := by decide +kernel
theorem dX1_even_52 : decode cX1_even 52 = .ok (.iadd, 1) := by decide +kernel
theorem dX1_even_53 : decode cX1_even 53 = .ok (.istore 6, 2) := by decide +kernel
theorem dX1_even_55 : decode cX1_even 55 = .ok (.iload 6, 2) := by decide +kernel
theorem dX1_even_57 : decode cX1_even 57 = .ok (.aload_n 0, 1) := by decide +kernel
theorem dX1_even_58 : decode cX1_even 58 = .ok (.getfield 23, 3) := by decide +kernel
theorem dX1_even_61 : decode cX1_even 61 = .ok (.if_icmp .ge 27, 3) := by decide +kernel
theorem dX1_even_64 : decode cX1_even 64 = .ok (.iload_n 3, 1) := by decide +kernel
theorem dX1_even_65 : decode cX1_even 65 = .ok (.iload 5, 2) := by decide +kernel
theorem dX1_even_67 : decode cX1_even 67 = .ok (.invokestatic 27, 3) := by decide +kernel
theorem dX1_even_70 : decode cX1_even 70 = .ok (.iload_n 3, 1) := by decide +kernel
theorem dX1_even_71 : decode cX1_even 71 = .ok (.iload 6, 2) := by decide +kernel
theorem dX1_even_73 : decode cX1_even 73 = .ok (.invokestatic 27, 3) := by decide +kernel
theorem dX1_even_76 : decode cX1_even 76 = .ok (.if_icmp .le 6, 3) := by decide +kernel
theorem dX1_even_79 : decode cX1_even 79 = .ok (.iinc 4 1, 3) := by decide +kernel
theorem dX1_even_82 : decode cX1_even 82 = .ok (.iinc 6 1, 3) := by decide +kernel
theorem dX1_even_85 : decode cX1_even 85 = .ok (.goto (-30), 3) := by decide +kernel
theorem dX1_even_88 : decode cX1_even 88 = .ok (.iinc 5 1, 3) := by decide +kernel
theorem dX1_even_91 : decode cX1_even 91 = .ok (.goto (-51), 3) := by decide +kernel
theorem dX1_even_94 : decode cX1_even 94 = .ok (.iload 4, 2) := by decide +kernel
theorem dX1_even_96 : decode cX1_even 96 = .ok (.iconst 2, 1) := by decide +kernel
theorem dX1_even_97 : decode cX1_even 97 = .ok (.irem, 1) := by decide +kernel
theorem dX1_even_98 : decode cX1_even 98 = .ok (.ifCond .ne 6, 3) := by decide +kernel
theorem dX1_even_101 : decode cX1_even 101 = .ok (.iinc 1 1, 3) := by decide +kernel
theorem dX1_even_104 : decode cX1_even 104 = .ok (.iinc 2 1, 3) := by decide +kernel
theorem dX1_even_107 : decode cX1_even 107 = .ok (.goto (-99), 3) := by decide +kernel
theorem dX1_even_110 : decode cX1_even 110 = .ok (.iload_n 1, 1) := by decide +kernel
theorem dX1_even_111 : decode cX1_even 111 = .ok (.ireturn, 1) := by decide +kernel
theorem dX1_thrown_0 : decode cX1_thrown 0 = .ok (.aload_n 0, 1) := by decide +kernel
theorem dX1_thrown_1 : decode cX1_thrown 1 = .ok (.getfield 69, 3) := by decide +kernel
theorem dX1_thrown_4 : decode cX1_thrown 4 = .ok (.ireturn, 1) := by decide +kernel
end
section
/-! ===== pure contracts (the heap stays as it is), calls of them, small number rows ===== -/
/-- a method that leaves the heap as it is and answers r -/
def pI (l : Launch) (y : MethodName) (ws : List Cond) (rm : Room) (av : List Value) (D : va_G) (tys : List (ClassId × FieldType)) (H : Heap) (r : Int32) : Prop :=
  Met l y ws rm (va_Pc av (fun U => U.heap = H ∧ va_K D vwCl tys U)) (va_Qi (fun (z : Int32) (_ : Unit) => z = r) (fun _ t => t.heap = H) (fun _ => False)) 0 0 (fun _ => False)
section PUA
variable {p : Program} {l : Launch} {e : Env} {R : Room} {s : State} {m : MethodId} {args : Array Value} {below : List Frame} {meth : Method} {c : Code} {H : Heap} {locs : List Loc} {cells slots : Nat} {Q : State → Prop}
variable {y : MethodName} {bytes cc : ByteArray} {maxL nL n index : Nat} {ret : Option FieldType} {ws : List Cond} {rm : Room} {Ts : List Cond} {own C : String} {b : Addr} {As rest st0 : List Value} {D : va_G} {tys : List (ClassId × FieldType)} {pc : Nat} {ls : Array Slot} {r : Int32}
theorem pu_tp {x z : Int32} (h : x = z) (k : W p l e R s m args below meth c H locs cells slots Q (F0 m pc ls (.int z :: rest))) : W p l e R s m args below meth c H locs cells slots Q (F0 m pc ls (.int x :: rest)) := h ▸ k
theorem pu_back {a : Array Value} (hr : va_Run p l e R s m args below meth c H locs cells slots 0 0 (F0 m pc ls st0) rest (va_Qi (fun (z : Int32) (_ : Unit) => z = r) (fun _ t => t.heap = H) (fun _ => False) a) (fun _ => False)) (kk : W p l e R s m args below meth c H locs cells slots Q (F0 m (pc + 3) ls (.int r :: rest))) : W p l e R s m args below meth c H locs cells slots Q (F0 m pc ls st0) := by
  intro T hT X
  obtain ⟨v, st₀, t, T', L, h0, X', hL, e1, e2, ⟨⟨z, u, hv, hp, hb⟩, hz, hk⟩, st⟩ := hr T hT X
  cases hv
  subst hp
  have hL0 : L = [] := by
    cases L with
    | nil => rfl
    | cons q _ => exact absurd (hL q List.mem_cons_self) id
  subst hL0
  rw [List.append_nil] at X'
  obtain ⟨t2, a1, b1⟩ := kk T' (e1.trans hb) X'
  exact ⟨t2, st t2 a1, b1⟩
theorem pu_V (S : CallFix p m c cc nL s args Ts own) (hM : pI l y ws rm (.ref b :: As) D tys H r) (cw : CallW R s args own C index y bytes maxL ret ws rm 0 0 n) (hrc : ∃ cellB : Cell, H[b]? = some cellB ∧ cellB.vm.isStatics = false ∧ s.vm.findClass C = some cellB.cls) (hK : va_K D vwCl tys s) (hn : As.length = n) (hsize : ls.size = nL) (hst : st0 = As.reverse ++ .ref b :: rest) (hW : (rest.map fun v => v.category).sum ≤ 8) (hdg : decode cc pc = .ok (.invokevirtual index, 3)) (hf : cells ≤ R.cells ∧ slots ≤ R.slots)
    (kk : W p l e R s m args below meth c H locs cells slots Q (F0 m (pc + 3) ls (.int r :: rest))) : W p l e R s m args below meth c H locs cells slots Q (F0 m pc ls st0) :=
  pu_back (va_runV (g := F0 m pc ls st0) S hM cw ⟨fun a U g mk q => ⟨q.1, q.2.1, va_K.moved (u := U) (U := U.calling g mk a) (Vm.Alike.refl U.vm) q.2.2⟩, hrc, fun U hU hW => ⟨rfl, hU, va_K.moved hW.alike hK⟩⟩ rfl hn hsize hst (lv_room hW) hdg hf) kk
theorem pu_S (S : CallFix p m c cc nL s args Ts own) (hM : pI l y ws rm As D tys H r) (cw : CallB R s args own index y bytes maxL ret ws rm 0 0 n ∧ (Cond.static y).before args s = true) (hK : va_K D vwCl tys s) (hn : As.length = n) (hsize : ls.size = nL) (hst : st0 = As.reverse ++ rest) (hW : (rest.map fun v => v.category).sum ≤ 8) (hdg : decode cc pc = .ok (.invokestatic index, 3)) (hf : cells ≤ R.cells ∧ slots ≤ R.slots)
    (kk : W p l e R s m args below meth c H locs cells slots Q (F0 m (pc + 3) ls (.int r :: rest))) : W p l e R s m args below meth c H locs cells slots Q (F0 m pc ls st0) :=
  pu_back (va_runS (g := F0 m pc ls st0) S hM cw ⟨fun a U g mk q => ⟨q.1, q.2.1, va_K.moved (u := U) (U := U.calling g mk a) (Vm.Alike.refl U.vm) q.2.2⟩, fun U hU hW => ⟨rfl, hU, va_K.moved hW.alike hK⟩⟩ rfl hn hsize hst (lv_room hW) hdg hf) kk
theorem pI_ofW {ws' : List Cond} {av : List Value} (hy : plainName y.cls = true) (hw : ws = Cond.code y cc maxL ret :: ws') (hrt : ret = some .int ∨ (ret = some .boolean ∧ (r = 0 ∨ r = 1))) (hav : (lg_sl av).length ≤ maxL)
    (body : ∀ (p : Program) (e : Env) (s : State) (m : MethodId) (args : Array Value) (below : List Frame) (meth : Method) (c : Code) (Q : State → Prop), p.tables.exec = Jvm.exec → c.code = cc → c.maxLocals = maxL → s.vm.findClass y.cls = some m.cls → (∀ w ∈ ws, w.before args s = true) → va_K D vwCl tys s → (∀ (pc : Nat) (ls : Array Slot) (v : Int32), v = r → decode cc pc = .ok (.ireturn, 1) → W p l e rm s m args below meth c H [] 0 0 Q (F0 m pc ls [.int v])) → ∀ ls : Array Slot, lv_has ls maxL (lv_args 0 av) → W p l e rm s m args below meth c H [] 0 0 Q (F0 m 0 ls [])) : pI l y ws rm av D tys H r := by
  refine Met.ofW (cc := cc) (maxL := maxL) (ret := ret) hy hw ?_
  intro p e s m args below meth c s₁ B hml hv
  obtain ⟨rfl, hH, hK⟩ := hv
  subst hH
  have hts := atoms_spec (ws := ws) B.pre
  have hown : s.vm.findClass y.cls = some m.cls := findClass_of_methodNamed B.named
  have hl := lv_entry av (n := maxL) hav
  rw [lg_entry_eq]
  generalize (lg_sl av ++ List.replicate (maxL - (lg_sl av).length) Slot.unset).toArray = ls at hl ⊢
  have hret : ∀ (pc : Nat) (ls : Array Slot) (v : Int32), v = r → decode cc pc = .ok (.ireturn, 1) → W p l e (headSpec ws rm).room s m av.toArray below meth c s.heap [] 0 0 (MQ below (va_Qi (fun (z : Int32) (_ : Unit) => z = r) (fun _ t => t.heap = s.heap) (fun _ => False)) av.toArray s 0 0 (fun _ => False)) (F0 m pc ls [.int v]) := by
    intro pc ls v hvr hdg
    subst hvr
    rcases hrt with hrt | ⟨hrt, h01⟩
    · exact W.iret B.exec B.bytes (by rw [B.returns, hrt]) (fun t ht hW => ⟨⟨v, (), rfl, rfl, ht⟩, by rw [ht]; exact Nat.le_refl _, fun q _ _ => by rw [ht]⟩) (fun _ h => by cases h) hdg
    · exact W.zret (ty := .boolean) B.exec B.bytes (by rw [B.returns, hrt]) (by rcases h01 with rfl | rfl <;> rfl) (fun t ht hW => ⟨⟨v, (), rfl, rfl, ht⟩, by rw [ht]; exact Nat.le_refl _, fun q _ _ => by rw [ht]⟩) (fun _ h => by cases h) hdg
  exact body p e s m av.toArray below meth c _ B.exec B.bytes hml hown hts hK hret ls hl
/-- an element of an array of int arrays -/
theorem ga_ald {ws : va_W} {cl : List vw_C} {a : Nat} (hexec : p.tables.exec = Jvm.exec) (hb : c.code = cc) (hK : va_K D cl tys s) (hP : va_P D cl ws H) (q0 t0 : Nat) {cA : ClassId} {n : Nat} {f : Nat → Option Nat} (ha : ws[q0]? = some (a, .inl (cA, n, .inr (.inr (.inr (.inr f)))))) (ht : tys[t0]? = some (cA, .array .int)) {i : Int32} (hin : vp_in i n) (hdg : decode cc pc = .ok (.aaload, 1))
    (kk : W p l e R s m args below meth c H locs cells slots Q (F0 m (pc + 1) ls (va_rf (f i.toNatClampNeg) :: rest))) : W p l e R s m args below meth c H locs cells slots Q (F0 m pc ls (.int i :: .ref a :: rest)) := by
  have hlt : i.toNatClampNeg < n := Nat.not_le.mp fun q => hin (Or.inr q)
  exact W.aald (v := va_rf (f i.toNatClampNeg)) (ty := .array .int) hexec hb (hP q0 _ ha) ((hK.2 t0 _ ht).1 n (fun j => va_rf (f j))) rfl (fun q => by cases q) (by show ¬ (i < 0 ∨ (arrV _ _ _).slots.size ≤ _); rw [arrV_size]; exact hin) (by show (arrV _ _ _).slots[_]? = _; rw [arrV_read _ _ hlt]) rfl rfl hdg kk
end PUA
theorem nb_or (a b : Nat) : nI a ||| nI b = nI (a ||| b) := by
  apply Int32.toBitVec_inj.1
  show BitVec.ofNat 32 a ||| BitVec.ofNat 32 b = BitVec.ofNat 32 (a ||| b)
  apply BitVec.eq_of_getLsbD_eq
  intro i hi
  simp [BitVec.getLsbD_ofNat, hi, Nat.testBit_or]
theorem nb_sl : ∀ n, n < 32 → ((nI n &&& 31).toBitVec.smod 32).toNat = n := by decide +kernel
theorem nb_su : ∀ n, n < 32 → (((nI n).toUInt32 &&& Int32.toUInt32 31).toBitVec % 32).toNat = n := by decide +kernel
theorem nb_eqm {a b : Nat} (h : a % 2 ^ 32 = b % 2 ^ 32) : nI a = nI b := by
  apply Int32.toBitVec_inj.1
  show BitVec.ofNat 32 a = BitVec.ofNat 32 b
  apply BitVec.eq_of_toNat_eq
  simpa [BitVec.toNat_ofNat] using h
theorem nb_and7 (a : Nat) : nI a &&& nI 7 = nI (a % 8) := by
  rw [pk_and (nI a) (m := nI 7) 3 (by decide)]
  show nI ((BitVec.ofNat 32 a).toNat % 2 ^ 3) = _
  rw [BitVec.toNat_ofNat, Nat.mod_mod_of_dvd a (by decide : 2 ^ 3 ∣ 2 ^ 32)]
theorem nb_and1 (a : Nat) : nI a &&& nI 1 = nI (a % 2) := by
  rw [pk_and (nI a) (m := nI 1) 1 (by decide)]
  show nI ((BitVec.ofNat 32 a).toNat % 2 ^ 1) = _
  rw [BitVec.toNat_ofNat, Nat.mod_mod_of_dvd a (by decide : 2 ^ 1 ∣ 2 ^ 32)]
theorem nb_shl (a : Nat) {k : Nat} (h : k < 32) : nI a <<< (nI k &&& 31) = nI (a * 2 ^ k) := by
  apply Int32.toBitVec_inj.1
  apply BitVec.eq_of_toNat_eq
  rw [pk_shl (nI a) (nI k &&& 31) k (nb_sl k h)]
  show (BitVec.ofNat 32 a).toNat * 2 ^ k % 2 ^ 32 = (BitVec.ofNat 32 (a * 2 ^ k)).toNat
  rw [BitVec.toNat_ofNat, BitVec.toNat_ofNat, Nat.mod_mul_mod]
theorem nb_ushr {a k : Nat} (ha : a < 2 ^ 32) (h : k < 32) : ((nI a).toUInt32 >>> ((nI k).toUInt32 &&& Int32.toUInt32 31)).toInt32 = nI (a / 2 ^ k) := pk_ushrN ha (nI k) k (nb_su k h)
theorem nb_shr {a k : Nat} (ha : a < 2 ^ 31) (h : k < 32) : nI a >>> (nI k &&& 31) = nI (a / 2 ^ k) := pk_shrN ha (nI k &&& 31) k (nb_sl k h)
theorem nb_of (x : Int32) : ∃ n, n < 2 ^ 32 ∧ x = nI n := ⟨x.toBitVec.toNat, x.toBitVec.isLt, Int32.toBitVec_inj.mp (by show _ = BitVec.ofNat 32 _; simp)⟩
def tn (x : Int32) : Nat := x.toBitVec.toNat
theorem tn_lt (x : Int32) : tn x < 2 ^ 32 := x.toBitVec.isLt
theorem nI_tn (x : Int32) : nI (tn x) = x := Int32.toBitVec_inj.mp (by show BitVec.ofNat 32 x.toBitVec.toNat = _; simp)
theorem tn_nI {n : Nat} (h : n < 2 ^ 32) : tn (nI n) = n := by
  show (BitVec.ofNat 32 n).toNat = n
  rw [BitVec.toNat_ofNat, Nat.mod_eq_of_lt h]
theorem nI_inj32 {a b : Nat} (ha : a < 2 ^ 32) (hb : b < 2 ^ 32) (h : nI a = nI b) : a = b := by
  rw [← tn_nI ha, ← tn_nI hb, h]
theorem nb_clamp {f : Nat → Int32} {i : Nat} (h : i < 2 ^ 31) : f (nI i).toNatClampNeg = f i := by rw [nI_clamp h]
theorem nb_neg {a : Nat} (h1 : 2 ^ 31 ≤ a) (h2 : a < 2 ^ 32) : nI a < 0 := by
  rw [Int32.lt_iff_toInt_lt]
  show (BitVec.ofNat 32 a).toInt < 0
  rw [BitVec.toInt_eq_toNat_cond, BitVec.toNat_ofNat, Nat.mod_eq_of_lt h2]
  rw [if_neg (by omega)]
  omega
theorem nb_m1 {a : Nat} (h : a < 2 ^ 31) : ¬ nI a = (-1 : Int32) := by
  intro h1
  have h2 : nI a = nI (2 ^ 32 - 1) := h1
  have := nI_inj32 (by omega) (by omega) h2
  omega
theorem nb_eq0 {a : Nat} (h : a < 2 ^ 32) : nI a = 0 ↔ a = 0 := ⟨fun q => nI_inj32 h (by decide) q, fun q => by rw [q]; rfl⟩
theorem nb_lt0 {a : Nat} (h : a < 2 ^ 31) : nI a < 0 ↔ a < 0 := ⟨fun q => absurd q (nI_pos h), fun q => absurd q (by omega)⟩
theorem nb_ge0 {a : Nat} (h : a < 2 ^ 31) : 0 ≤ nI a ↔ 0 ≤ a := ⟨fun _ => Nat.zero_le _, fun _ => nI_pos' h⟩
theorem nb_gt0 {a : Nat} (h : a < 2 ^ 31) : 0 < nI a ↔ 0 < a := nI_ltI (a := 0) (by decide) h
theorem nb_le0 {a : Nat} (h : a < 2 ^ 31) : nI a ≤ 0 ↔ a ≤ 0 := nI_leI (b := 0) h (by decide)
end
section
/-! ===== what the methods compute, loop by loop (k: rounds left), on numbers ===== -/
def im (P i : Nat) : Nat := P / 2 ^ (3 * i) % 8
def cpF (P Q : Nat) : Nat → Nat → Nat → Nat
  | 0, _, a => a
  | k + 1, i, a => cpF P Q k (i + 1) (a ||| im Q (im P i) * 2 ^ (3 * i))
def tm (n P Q : Nat) : Nat := cpF P Q n 0 0
def bkF (P : Nat) : Nat → Nat → Nat → Nat
  | 0, _, a => a
  | k + 1, i, a => bkF P k (i + 1) (a ||| i * 2 ^ (3 * im P i))
def bk (n P : Nat) : Nat := bkF P n 0 0
def mkF (P : Nat) : Nat → Nat → Nat → Nat
  | 0, _, a => a
  | k + 1, i, a => mkF P k (i + 1) (a ||| 1 * 2 ^ im P i)
def isP (n P : Nat) : Bool := Nat.beq (P / 2 ^ (3 * n)) 0 && Nat.beq (mkF P n 0 0) (1 * 2 ^ n - 1)
def odI (P j : Nat) : Nat → Nat → Nat → Nat
  | 0, _, a => a
  | k + 1, i, a => odI P j k (i + 1) (if im P j < im P i then a + 1 else a)
def odF (P : Nat) : Nat → Nat → Nat → Nat
  | 0, _, a => a
  | k + 1, j, a => odF P k (j + 1) (odI P j j 0 a)
def isO (n P : Nat) : Bool := Nat.beq (odF P (n - 1) 1 0 % 2) 1
def imF (S P : Nat) : Nat → Nat → Nat → Nat
  | 0, _, a => a
  | k + 1, i, a => imF S P k (i + 1) (if S / 2 ^ i % 2 = 1 then a ||| 1 * 2 ^ im P i else a)
def cnF (f : Nat → Int32) (lv : Nat) : Nat → Nat → Nat → Nat
  | 0, _, a => a
  | k + 1, x, a => cnF f lv k (x + 1) (if f (lv * 8 + x) = -1 then a else a + 1)
def fxF (f : Nat → Int32) (n : Nat) : Nat → Nat → Nat → Nat
  | 0, _, a => a
  | k + 1, lv, a => fxF f n k (lv + 1) (a * cnF f lv (n - lv) lv 0)
def fx (f : Nat → Int32) (n k : Nat) : Nat := fxF f n (n - k) k 1
def rsF (f : Nat → Int32) (n : Nat) : Nat → Nat → Nat → Nat
  | 0, _, r => r
  | k + 1, lv, r => if im r lv = lv then rsF f n k (lv + 1) r else if f (lv * 8 + im r lv) = -1 then r else rsF f n k (lv + 1) (tm n r (bk n (tn (f (lv * 8 + im r lv)))))
def rs (f : Nat → Int32) (n P : Nat) : Nat := rsF f n n 0 P
def icI (f : Nat → Int32) (n lv al bb : Nat) : Nat → Nat → Nat → Nat → Nat × Nat
  | 0, _, fo, be => (fo, be)
  | k + 1, y, fo, be => if f (lv * 8 + im bb y) = -1 then icI f n lv al bb k (y + 1) fo be else if be < al then (tm n (tn (f (lv * 8 + im bb y))) fo, be) else icI f n lv al bb k (y + 1) fo (be - al)
def icF (f : Nat → Int32) (n : Nat) : Nat → Nat → Nat → Nat → Nat
  | 0, _, fo, _ => fo
  | k + 1, lv, fo, be => icF f n k (lv + 1) (icI f n lv (fx f n (lv + 1)) (bk n fo) n 0 fo be).1 (icI f n lv (fx f n (lv + 1)) (bk n fo) n 0 fo be).2
def ic (f : Nat → Int32) (n P k : Nat) : Nat := icF f n n 0 P k
def elF (f : Nat → Int32) (lv fo lim : Nat) : Nat → Nat → Nat → Nat
  | 0, _, a => a
  | k + 1, x, a => elF f lv fo lim k (x + 1) (if f (lv * 8 + x) = -1 then a else if im fo x < lim then a + 1 else a)
def ebF (f : Nat → Int32) (n P : Nat) : Nat → Nat → Nat → Nat → Nat
  | 0, _, be, _ => be
  | k + 1, lv, be, fo => ebF f n P k (lv + 1) (be + elF f lv fo (im P lv) (n - lv) lv 0 * fx f n (lv + 1)) (tm n (tn (f (lv * 8 + im (bk n fo) (im P lv)))) fo)
def eb (f : Nat → Int32) (n id P : Nat) : Nat := ebF f n P n 0 0 id
def obI (ad : Nat → Int32) (n : Nat) : Nat → Nat → Nat → Nat
  | 0, _, r => r
  | j + 1, k, r => obI ad n j (k + 1) (r ||| imF r (tn (ad k)) n 0 0)
def obF (ad : Nat → Int32) (n ct : Nat) : Nat → Nat → Nat → Nat
  | 0, _, r => r
  | j + 1, t, r => obF ad n ct j (t + 1) (obI ad n ct 0 r)
def evF (ad : Nat → Int32) (n al : Nat) : Nat → Nat → Nat
  | 0, _ => al
  | j + 1, k => if isO n (tn (ad k)) = true then al / 2 else evF ad n al j (k + 1)
def idF : Nat → Nat → Nat → Nat
  | 0, _, a => a
  | k + 1, i, a => idF k (i + 1) (a ||| i * 2 ^ (3 * i))
def idn (n : Nat) : Nat := idF n 0 0
def b01 (b : Bool) : Int32 := if b = true then 1 else 0
theorem b01_or (b : Bool) : b01 b = 0 ∨ b01 b = 1 := by cases b <;> simp [b01]
/-! ===== bounds ===== -/
theorem im_lt (P i : Nat) : im P i < 8 := Nat.mod_lt _ (by decide)
theorem im_le (P i : Nat) : im P i ≤ 7 := Nat.le_of_lt_succ (im_lt P i)
theorem bd_mul {a k n : Nat} (h : a < 8) (hk : k ≤ 7) (hn : n = 24) : a * 2 ^ (3 * k) < 2 ^ n := by
  subst hn
  calc a * 2 ^ (3 * k) < 8 * 2 ^ (3 * k) := Nat.mul_lt_mul_of_pos_right h (Nat.two_pow_pos _)
    _ ≤ 8 * 2 ^ 21 := Nat.mul_le_mul_left _ (Nat.pow_le_pow_right (by decide) (by omega))
    _ = 2 ^ 24 := by decide
theorem cpF_lt (P Q : Nat) : ∀ k i a, i + k ≤ 8 → a < 2 ^ 24 → cpF P Q k i a < 2 ^ 24
  | 0, _, _, _, h => h
  | k + 1, i, a, h1, h => cpF_lt P Q k (i + 1) _ (by omega) (Nat.or_lt_two_pow h (bd_mul (im_lt _ _) (by omega) rfl))
theorem tm_lt {n : Nat} (h : n ≤ 7) (P Q : Nat) : tm n P Q < 2 ^ 24 := cpF_lt P Q n 0 0 (by omega) (by decide)
theorem bkF_lt (P : Nat) : ∀ k i a, i + k ≤ 8 → a < 2 ^ 24 → bkF P k i a < 2 ^ 24
  | 0, _, _, _, h => h
  | k + 1, i, a, h1, h => bkF_lt P k (i + 1) _ (by omega) (Nat.or_lt_two_pow h (bd_mul (by omega) (im_le _ _) rfl))
theorem bk_lt {n : Nat} (h : n ≤ 7) (P : Nat) : bk n P < 2 ^ 24 := bkF_lt P n 0 0 (by omega) (by decide)
theorem bd_pow {k : Nat} (h : k ≤ 7) : 1 * 2 ^ k < 2 ^ 8 := by
  rw [Nat.one_mul]
  exact Nat.pow_lt_pow_right (by decide) (by omega)
theorem mkF_lt (P : Nat) : ∀ k i a, a < 2 ^ 8 → mkF P k i a < 2 ^ 8
  | 0, _, _, h => h
  | k + 1, i, a, h => mkF_lt P k (i + 1) _ (Nat.or_lt_two_pow h (bd_pow (im_le _ _)))
theorem imF_lt (S P : Nat) : ∀ k i a, a < 2 ^ 8 → imF S P k i a < 2 ^ 8
  | 0, _, _, h => h
  | k + 1, i, a, h => imF_lt S P k (i + 1) _ (by
      by_cases c : S / 2 ^ i % 2 = 1
      · rw [if_pos c]; exact Nat.or_lt_two_pow h (bd_pow (im_le _ _))
      · rw [if_neg c]; exact h)
theorem cnF_le (f : Nat → Int32) (lv : Nat) : ∀ k x a, cnF f lv k x a ≤ a + k
  | 0, _, _ => Nat.le_refl _
  | k + 1, x, a => by
      have h := cnF_le f lv k (x + 1) (if f (lv * 8 + x) = -1 then a else a + 1)
      show cnF f lv k (x + 1) (if f (lv * 8 + x) = -1 then a else a + 1) ≤ a + (k + 1)
      split at h <;> rename_i c
      · rw [if_pos c]; omega
      · rw [if_neg c]; omega
theorem fxF_le (f : Nat → Int32) {n : Nat} (hn : n ≤ 7) : ∀ k lv a, fxF f n k lv a ≤ a * 7 ^ k
  | 0, _, a => by show a ≤ a * 7 ^ 0; omega
  | k + 1, lv, a => by
      have h := fxF_le f hn k (lv + 1) (a * cnF f lv (n - lv) lv 0)
      have h2 : cnF f lv (n - lv) lv 0 ≤ 7 := Nat.le_trans (cnF_le f lv (n - lv) lv 0) (by omega)
      refine Nat.le_trans h ?_
      rw [Nat.pow_succ, Nat.mul_comm (7 ^ k) 7, ← Nat.mul_assoc]
      exact Nat.mul_le_mul_right _ (Nat.mul_le_mul_left _ h2)
theorem fx_lt (f : Nat → Int32) {n : Nat} (hn : n ≤ 7) (k : Nat) : fx f n k < 2 ^ 24 := by
  refine Nat.lt_of_le_of_lt (fxF_le f hn (n - k) k 1) ?_
  rw [Nat.one_mul]
  exact Nat.lt_of_le_of_lt (Nat.pow_le_pow_right (by decide) (show n - k ≤ 7 by omega)) (by decide)
theorem odI_le (P j : Nat) : ∀ k i a, odI P j k i a ≤ a + k
  | 0, _, _ => Nat.le_refl _
  | k + 1, i, a => by
      have h := odI_le P j k (i + 1) (if im P j < im P i then a + 1 else a)
      show odI P j k (i + 1) (if im P j < im P i then a + 1 else a) ≤ a + (k + 1)
      split at h <;> rename_i c
      · rw [if_pos c]; omega
      · rw [if_neg c]; omega
theorem rsF_lt (f : Nat → Int32) {n : Nat} (hn : n ≤ 7) : ∀ k lv r, r < 2 ^ 32 → rsF f n k lv r < 2 ^ 32
  | 0, _, _, h => h
  | k + 1, lv, r, h => by
      show (if im r lv = lv then rsF f n k (lv + 1) r else if f (lv * 8 + im r lv) = -1 then r else rsF f n k (lv + 1) (tm n r (bk n (tn (f (lv * 8 + im r lv)))))) < 2 ^ 32
      split
      · exact rsF_lt f hn k (lv + 1) r h
      · split
        · exact h
        · exact rsF_lt f hn k (lv + 1) _ (Nat.lt_trans (tm_lt hn _ _) (by decide))
theorem idF_lt : ∀ k i a, i + k ≤ 8 → a < 2 ^ 24 → idF k i a < 2 ^ 24
  | 0, _, _, _, h => h
  | k + 1, i, a, h1, h => idF_lt k (i + 1) _ (by omega) (Nat.or_lt_two_pow h (bd_mul (by omega) (by omega) rfl))
theorem idn_lt {n : Nat} (h : n ≤ 7) : idn n < 2 ^ 24 := idF_lt n 0 0 (by omega) (by decide)
/-! ===== the class's cells ===== -/
abbrev gW (cI cG : ClassId) (h a g f : Nat) (ra : Nat → Nat) (n id ct fc : Int32) (ad fl : Nat → Int32) (R : Nat → Nat → Int32) : va_W :=
  (h, .inr (0, [.int n, .int id, .int ct, .ref a, .ref g, .ref f, .int fc])) :: (a, .inl (cI, 12, .inl ad)) :: (g, .inl (cG, 13, .inr (.inr (.inr (.inr (fun i => if i < 13 then some (ra i) else none)))))) :: (f, .inl (cI, 21, .inl fl)) :: (List.range 13).map (fun i => (ra i, .inl (cI, 56, .inl (R i))))
abbrev gT (cI cG cZ : ClassId) : List (ClassId × FieldType) := [(cI, .int), (cG, .array .int), (cZ, .boolean)]
theorem gW_row {cI cG : ClassId} {h a g f : Nat} {ra : Nat → Nat} {n id ct fc : Int32} {ad fl : Nat → Int32} {R : Nat → Nat → Int32} {i : Nat} (hi : i < 13) : (gW cI cG h a g f ra n id ct fc ad fl R)[i + 4]? = some (ra i, .inl (cI, 56, .inl (R i))) := by
  show ((List.range 13).map (fun i => ((ra i, .inl (cI, 56, .inl (R i))) : Nat × va_E)))[i]? = _
  rw [List.getElem?_map, List.getElem?_range hi]
  rfl
end
section
/-! ===== one step of each loop; booleans; places ===== -/
theorem b01_z {b : Bool} : b01 b = 0 ↔ b = false := by cases b <;> simp [b01]
theorem b01_f {b : Bool} (h : b01 b = 0) : b = false := b01_z.mp h
theorem b01_t {b : Bool} (h : ¬ b01 b = 0) : b = true := by cases b <;> simp [b01] at h ⊢
theorem nb_ix {x : Int32} {n : Nat} (h1 : ¬ x < 0) (h2 : x < nI n) (hn : n < 2 ^ 31) : ∃ X, X < n ∧ x = nI X := by
  obtain ⟨X, hX, rfl⟩ := nI_of h1
  exact ⟨X, (nI_ltI hX hn).mp h2, rfl⟩
theorem nb_ixle {x : Int32} {n : Nat} (h1 : ¬ x < 0) (h2 : x ≤ nI n) (hn : n < 2 ^ 31) : ∃ X, X ≤ n ∧ x = nI X := by
  obtain ⟨X, hX, rfl⟩ := nI_of h1
  exact ⟨X, (nI_leI hX hn).mp h2, rfl⟩
section STP
variable {f : Nat → Int32} {n : Nat}
theorem odI_t {P j k i a : Nat} (c : im P j < im P i) : odI P j (k + 1) i a = odI P j k (i + 1) (a + 1) := by show odI P j k (i + 1) (if im P j < im P i then a + 1 else a) = _; rw [if_pos c]
theorem odI_f {P j k i a : Nat} (c : ¬ im P j < im P i) : odI P j (k + 1) i a = odI P j k (i + 1) a := by show odI P j k (i + 1) (if im P j < im P i then a + 1 else a) = _; rw [if_neg c]
theorem imF_t {S P k i a : Nat} (c : S / 2 ^ i % 2 = 1) : imF S P (k + 1) i a = imF S P k (i + 1) (a ||| 1 * 2 ^ im P i) := by show imF S P k (i + 1) (if S / 2 ^ i % 2 = 1 then a ||| 1 * 2 ^ im P i else a) = _; rw [if_pos c]
theorem imF_f {S P k i a : Nat} (c : ¬ S / 2 ^ i % 2 = 1) : imF S P (k + 1) i a = imF S P k (i + 1) a := by show imF S P k (i + 1) (if S / 2 ^ i % 2 = 1 then a ||| 1 * 2 ^ im P i else a) = _; rw [if_neg c]
theorem cnF_n {lv k x a : Nat} (c : f (lv * 8 + x) = -1) : cnF f lv (k + 1) x a = cnF f lv k (x + 1) a := by show cnF f lv k (x + 1) (if f (lv * 8 + x) = -1 then a else a + 1) = _; rw [if_pos c]
theorem cnF_y {lv k x a : Nat} (c : ¬ f (lv * 8 + x) = -1) : cnF f lv (k + 1) x a = cnF f lv k (x + 1) (a + 1) := by show cnF f lv k (x + 1) (if f (lv * 8 + x) = -1 then a else a + 1) = _; rw [if_neg c]
theorem rsF_eq {k lv r : Nat} (c : im r lv = lv) : rsF f n (k + 1) lv r = rsF f n k (lv + 1) r := if_pos c
theorem rsF_no {k lv r : Nat} (c : ¬ im r lv = lv) (d : f (lv * 8 + im r lv) = -1) : rsF f n (k + 1) lv r = r := (if_neg c).trans (if_pos d)
theorem rsF_go {k lv r : Nat} (c : ¬ im r lv = lv) (d : ¬ f (lv * 8 + im r lv) = -1) : rsF f n (k + 1) lv r = rsF f n k (lv + 1) (tm n r (bk n (tn (f (lv * 8 + im r lv))))) := (if_neg c).trans (if_neg d)
theorem icI_none {lv al bb k y fo be : Nat} (c : f (lv * 8 + im bb y) = -1) : icI f n lv al bb (k + 1) y fo be = icI f n lv al bb k (y + 1) fo be := if_pos c
theorem icI_hit {lv al bb k y fo be : Nat} (c : ¬ f (lv * 8 + im bb y) = -1) (d : be < al) : icI f n lv al bb (k + 1) y fo be = (tm n (tn (f (lv * 8 + im bb y))) fo, be) := (if_neg c).trans (if_pos d)
theorem icI_sub {lv al bb k y fo be : Nat} (c : ¬ f (lv * 8 + im bb y) = -1) (d : ¬ be < al) : icI f n lv al bb (k + 1) y fo be = icI f n lv al bb k (y + 1) fo (be - al) := (if_neg c).trans (if_neg d)
theorem icF_step {j lv fo be x z : Nat} (h : icI f n lv (fx f n (lv + 1)) (bk n fo) n 0 fo be = (x, z)) : icF f n (j + 1) lv fo be = icF f n j (lv + 1) x z := by
  show icF f n j (lv + 1) (icI f n lv (fx f n (lv + 1)) (bk n fo) n 0 fo be).1 (icI f n lv (fx f n (lv + 1)) (bk n fo) n 0 fo be).2 = _
  rw [h]
theorem elF_n {lv fo lim k x a : Nat} (c : f (lv * 8 + x) = -1) : elF f lv fo lim (k + 1) x a = elF f lv fo lim k (x + 1) a := by show elF f lv fo lim k (x + 1) (if f (lv * 8 + x) = -1 then a else if im fo x < lim then a + 1 else a) = _; rw [if_pos c]
theorem elF_y {lv fo lim k x a : Nat} (c : ¬ f (lv * 8 + x) = -1) (d : im fo x < lim) : elF f lv fo lim (k + 1) x a = elF f lv fo lim k (x + 1) (a + 1) := by show elF f lv fo lim k (x + 1) (if f (lv * 8 + x) = -1 then a else if im fo x < lim then a + 1 else a) = _; rw [if_neg c, if_pos d]
theorem elF_m {lv fo lim k x a : Nat} (c : ¬ f (lv * 8 + x) = -1) (d : ¬ im fo x < lim) : elF f lv fo lim (k + 1) x a = elF f lv fo lim k (x + 1) a := by show elF f lv fo lim k (x + 1) (if f (lv * 8 + x) = -1 then a else if im fo x < lim then a + 1 else a) = _; rw [if_neg c, if_neg d]
end STP
def genI (ad : Nat → Int32) (ct : Nat) (k : Int32) : Int32 := if k < 0 then -1 else if k < nI ct then ad (tn k) else -1
def orbI (ad : Nat → Int32) (n ct : Nat) (x : Int32) : Int32 := if x < 0 then 0 else if x < nI n then nI (obF ad n ct n 0 (1 * 2 ^ tn x)) else 0
def fixI (f : Nat → Int32) (n : Nat) (k : Int32) : Int32 := if k < 0 then 0 else if k ≤ nI n then nI (fx f n (tn k)) else 0
theorem obI_lt (ad : Nat → Int32) (n : Nat) : ∀ j k r, r < 2 ^ 8 → obI ad n j k r < 2 ^ 8
  | 0, _, _, h => h
  | j + 1, k, r, h => obI_lt ad n j (k + 1) _ (Nat.or_lt_two_pow h (imF_lt _ _ _ _ _ (by decide)))
section GRW
variable {p : Program} {l : Launch} {e : Env} {rm : Room} {s : State} {m : MethodId} {args : Array Value} {below : List Frame} {meth : Method} {c : Code} {H : Heap} {locs : List Loc} {cells slots : Nat} {Q : State → Prop} {cc : ByteArray} {pc : Nat} {ls : Array Slot} {rest : List Value}
variable {D : va_G} {cI cG cZ : ClassId} {h a g f : Nat} {ra : Nat → Nat} {n id ct fc : Int32} {ad fl : Nat → Int32} {R : Nat → Nat → Int32}
/-- row i of the table of rows -/
theorem ga_row (hx : p.tables.exec = Jvm.exec) (hb : c.code = cc) (hK : va_K D vwCl (gT cI cG cZ) s) (hP : va_P D vwCl (gW cI cG h a g f ra n id ct fc ad fl R) H) {i : Nat} (hi : i < 13) (hdg : decode cc pc = .ok (.aaload, 1))
    (kk : W p l e rm s m args below meth c H locs cells slots Q (F0 m (pc + 1) ls (.ref (ra i) :: rest))) : W p l e rm s m args below meth c H locs cells slots Q (F0 m pc ls (.int (nI i) :: .ref g :: rest)) := by
  refine ga_ald hx hb hK hP 2 1 rfl rfl (vp_in_nI hi (by decide)) hdg ?_
  rw [nI_clamp (by omega), if_pos hi]
  exact kk
end GRW
theorem nb_eqI {a b : Nat} (ha : a < 2 ^ 32) (hb : b < 2 ^ 32) : nI a = nI b ↔ a = b := ⟨nI_inj32 ha hb, fun h => by rw [h]⟩
end
section
/-! ===== contracts of methods that write into their own cells and make none ===== -/
def inW (w : va_W) : Nat → Prop := fun q => ∃ (k : Nat) (e : va_E), w[k]? = some (q, e)
theorem inW_D {w : va_W} {A : Nat → Prop} (h : va_D A w) : va_D (inW w) w := ⟨h.1, fun k q hk => ⟨k, q.2, hk⟩⟩
theorem inW_of {w : va_W} {A : Nat → Prop} (h : va_D A w) : ∀ q, inW w q → A q := fun q ⟨k, e, hk⟩ => h.2 k (q, e) hk
theorem va_D_addr {w w' : va_W} {A : Nat → Prop} (hm : w'.map (fun q => q.1) = w.map (fun q => q.1)) (h : va_D A w) : va_D A w' := by
  have key : ∀ (k : Nat) (q : Nat × va_E), w'[k]? = some q → ∃ q0, w[k]? = some q0 ∧ q0.1 = q.1 := by
    intro k q hk
    have h1 : (w'.map (fun q => q.1))[k]? = some q.1 := by rw [List.getElem?_map, hk]; rfl
    rw [hm, List.getElem?_map] at h1
    cases hw : w[k]? with
    | none => rw [hw] at h1; cases h1
    | some q0 => rw [hw] at h1; exact ⟨q0, rfl, Option.some.inj h1⟩
  refine ⟨fun i j x y hi hj hxy => ?_, fun k q hk => ?_⟩
  · obtain ⟨x0, h1, h2⟩ := key i x hi
    obtain ⟨y0, h3, h4⟩ := key j y hj
    exact h.1 i j x0 y0 h1 h3 (h2.trans (hxy.trans h4.symm))
  · obtain ⟨q0, h1, h2⟩ := key k q hk
    rw [← h2]
    exact h.2 k q0 h1
def mI {S : Type} (l : Launch) (y : MethodName) (ws : List Cond) (rm : Room) (av : List Value) (D : va_G) (tys : List (ClassId × FieldType)) (w0 : va_W) (w1 : S → va_W) (post : Int32 → S → Prop) : Prop :=
  Met l y ws rm (va_Pc av (fun U => va_P D vwCl w0 U.heap ∧ va_K D vwCl tys U ∧ va_D (fun _ => True) w0)) (va_Qi post (fun u t => va_P D vwCl (w1 u) t.heap) (inW w0)) 0 0 (inW w0)
def mV {S : Type} (l : Launch) (y : MethodName) (ws : List Cond) (rm : Room) (av : List Value) (D : va_G) (tys : List (ClassId × FieldType)) (w0 : va_W) (w1 : S → va_W) (post : S → Prop) : Prop :=
  Met l y ws rm (va_Pc av (fun U => va_P D vwCl w0 U.heap ∧ va_K D vwCl tys U ∧ va_D (fun _ => True) w0)) (va_Qv post (fun u t => va_P D vwCl (w1 u) t.heap) (inW w0)) 0 0 (inW w0)
section MIA
variable {p : Program} {l : Launch} {e : Env} {RM : Room} {s : State} {m : MethodId} {args : Array Value} {below : List Frame} {meth : Method} {c : Code} {H : Heap} {locs : List Loc} {cells slots : Nat} {Q : State → Prop}
variable {y : MethodName} {bytes cc : ByteArray} {maxL nL n index : Nat} {ret : Option FieldType} {ws : List Cond} {rm : Room} {Ts : List Cond} {own C : String} {b : Addr} {As rest st0 : List Value} {D : va_G} {tys : List (ClassId × FieldType)} {pc : Nat} {ls : Array Slot}
variable {S : Type} {w0 : va_W} {w1 : S → va_W} {H0 : Heap} {A0 : Nat → Prop}
theorem mi_pre (hK : va_K D vwCl tys s) (hP : va_P D vwCl w0 H) (hD : va_D A0 w0) : PreS s H (va_Pc As (fun U => va_P D vwCl w0 U.heap ∧ va_K D vwCl tys U ∧ va_D (fun _ => True) w0)) As :=
  ⟨fun a U g mk q => ⟨q.1, q.2.1, va_K.moved (u := U) (U := U.calling g mk a) (Vm.Alike.refl U.vm) q.2.2.1, q.2.2.2⟩, fun U hU hW => ⟨rfl, by rw [hU]; exact hP, va_K.moved hW.alike hK, hD.weaken (fun _ _ _ _ => trivial)⟩⟩
theorem mi_V {post : Int32 → S → Prop} (Sx : CallFix p m c cc nL s args Ts own) (hM : mI l y ws rm (.ref b :: As) D tys w0 w1 post) (cw : CallW RM s args own C index y bytes maxL ret ws rm 0 0 n) (hrc : ∃ cellB : Cell, H[b]? = some cellB ∧ cellB.vm.isStatics = false ∧ s.vm.findClass C = some cellB.cls) (hK : va_K D vwCl tys s) (hP : va_P D vwCl w0 H) (hD : va_D A0 w0) (hS : va_S A0 H0 H locs) (hn : As.length = n) (hsize : ls.size = nL) (hst : st0 = As.reverse ++ .ref b :: rest) (hW : (rest.map fun v => v.category).sum ≤ 8) (hdg : decode cc pc = .ok (.invokevirtual index, 3)) (hf : cells ≤ RM.cells ∧ slots ≤ RM.slots)
    (kk : ∀ (r : Int32) (u : S) (H1 : Heap) (locs1 : List Loc), post r u → va_P D vwCl (w1 u) H1 → va_S A0 H0 H1 locs1 → (∀ q : Nat, q < H.size → ¬ inW w0 q → H1[q]? = H[q]?) → W p l e RM s m args below meth c H1 locs1 cells slots Q (F0 m (pc + 3) ls (.int r :: rest))) : W p l e RM s m args below meth c H locs cells slots Q (F0 m pc ls st0) := by
  have hp := mi_pre (As := .ref b :: As) hK hP hD
  refine va_calli (va_runV (g := F0 m pc ls st0) Sx hM cw ⟨hp.1, hrc, hp.2⟩ rfl hn hsize hst (lv_room hW) hdg hf) hS (fun q _ h => inW_of hD q h) (inW_of hD) (fun r u t H1 locs1 ht hvm hw hB hz1 hk1 hS => ?_)
  rw [ht] at hB
  exact kk r u H1 locs1 hw hB hS hk1
theorem mv_V {post : S → Prop} (Sx : CallFix p m c cc nL s args Ts own) (hM : mV l y ws rm (.ref b :: As) D tys w0 w1 post) (cw : CallW RM s args own C index y bytes maxL ret ws rm 0 0 n) (hrc : ∃ cellB : Cell, H[b]? = some cellB ∧ cellB.vm.isStatics = false ∧ s.vm.findClass C = some cellB.cls) (hK : va_K D vwCl tys s) (hP : va_P D vwCl w0 H) (hD : va_D A0 w0) (hS : va_S A0 H0 H locs) (hn : As.length = n) (hsize : ls.size = nL) (hst : st0 = As.reverse ++ .ref b :: rest) (hW : (rest.map fun v => v.category).sum ≤ 8) (hdg : decode cc pc = .ok (.invokevirtual index, 3)) (hf : cells ≤ RM.cells ∧ slots ≤ RM.slots)
    (kk : ∀ (u : S) (H1 : Heap) (locs1 : List Loc), post u → va_P D vwCl (w1 u) H1 → va_S A0 H0 H1 locs1 → (∀ q : Nat, q < H.size → ¬ inW w0 q → H1[q]? = H[q]?) → W p l e RM s m args below meth c H1 locs1 cells slots Q (F0 m (pc + 3) ls rest)) : W p l e RM s m args below meth c H locs cells slots Q (F0 m pc ls st0) := by
  have hp := mi_pre (As := .ref b :: As) hK hP hD
  refine va_callv (va_runV (g := F0 m pc ls st0) Sx hM cw ⟨hp.1, hrc, hp.2⟩ rfl hn hsize hst (lv_room hW) hdg hf) hS (fun q _ h => inW_of hD q h) (inW_of hD) (fun u t H1 locs1 ht hvm hw hB hz1 hk1 hS => ?_)
  rw [ht] at hB
  exact kk u H1 locs1 hw hB hS hk1
theorem mI_ofW {post : Int32 → S → Prop} {ws' : List Cond} {av : List Value} (hy : plainName y.cls = true) (hw : ws = Cond.code y cc maxL ret :: ws') (hrt : ret = some .int ∨ (ret = some .boolean ∧ ∀ v u, post v u → v = 0 ∨ v = 1)) (hav : (lg_sl av).length ≤ maxL)
    (body : ∀ (p : Program) (e : Env) (s : State) (m : MethodId) (args : Array Value) (below : List Frame) (meth : Method) (c : Code) (Q : State → Prop), p.tables.exec = Jvm.exec → c.code = cc → c.maxLocals = maxL → s.vm.findClass y.cls = some m.cls → (∀ w ∈ ws, w.before args s = true) → va_K D vwCl tys s → va_P D vwCl w0 s.heap → va_D (inW w0) w0 → va_S (inW w0) s.heap s.heap [] → (∀ (u : S) (H : Heap) (locs : List Loc) (pc : Nat) (ls : Array Slot) (v : Int32), post v u → va_P D vwCl (w1 u) H → va_S (inW w0) s.heap H locs → decode cc pc = .ok (.ireturn, 1) → W p l e rm s m args below meth c H locs 0 0 Q (F0 m pc ls [.int v])) → ∀ ls : Array Slot, lv_has ls maxL (lv_args 0 av) → W p l e rm s m args below meth c s.heap [] 0 0 Q (F0 m 0 ls [])) : mI l y ws rm av D tys w0 w1 post := by
  refine Met.ofW (cc := cc) (maxL := maxL) (ret := ret) hy hw ?_
  intro p e s m args below meth c s₁ B hml hv
  obtain ⟨rfl, hP, hK, hD⟩ := hv
  have hts := atoms_spec (ws := ws) B.pre
  have hown : s.vm.findClass y.cls = some m.cls := findClass_of_methodNamed B.named
  have hl := lv_entry av (n := maxL) hav
  rw [lg_entry_eq]
  generalize (lg_sl av ++ List.replicate (maxL - (lg_sl av).length) Slot.unset).toArray = ls at hl ⊢
  refine body p e s m av.toArray below meth c _ B.exec B.bytes hml hown hts hK hP (inW_D hD) va_S.rf ?_ ls hl
  intro u H locs pc ls v hpo hP1 hS1 hdg
  rcases hrt with hrt | ⟨hrt, h01⟩
  · exact W.iret B.exec B.bytes (by rw [B.returns, hrt]) (fun t ht hW => ⟨⟨v, u, rfl, hpo, (by show va_P D vwCl (w1 u) t.heap; rw [ht]; exact hP1)⟩, hS1.F ht⟩) hS1.2.2 hdg
  · exact W.zret (ty := .boolean) B.exec B.bytes (by rw [B.returns, hrt]) (by rcases h01 v u hpo with rfl | rfl <;> rfl) (fun t ht hW => ⟨⟨v, u, rfl, hpo, (by show va_P D vwCl (w1 u) t.heap; rw [ht]; exact hP1)⟩, hS1.F ht⟩) hS1.2.2 hdg
theorem mV_ofW {post : S → Prop} {ws' : List Cond} {av : List Value} (hy : plainName y.cls = true) (hw : ws = Cond.code y cc maxL none :: ws') (hav : (lg_sl av).length ≤ maxL)
    (body : ∀ (p : Program) (e : Env) (s : State) (m : MethodId) (args : Array Value) (below : List Frame) (meth : Method) (c : Code) (Q : State → Prop), p.tables.exec = Jvm.exec → c.code = cc → c.maxLocals = maxL → s.vm.findClass y.cls = some m.cls → (∀ w ∈ ws, w.before args s = true) → va_K D vwCl tys s → va_P D vwCl w0 s.heap → va_D (inW w0) w0 → va_S (inW w0) s.heap s.heap [] → (∀ (u : S) (H : Heap) (locs : List Loc) (pc : Nat) (ls : Array Slot), post u → va_P D vwCl (w1 u) H → va_S (inW w0) s.heap H locs → decode cc pc = .ok (.return_, 1) → W p l e rm s m args below meth c H locs 0 0 Q (F0 m pc ls [])) → ∀ ls : Array Slot, lv_has ls maxL (lv_args 0 av) → W p l e rm s m args below meth c s.heap [] 0 0 Q (F0 m 0 ls [])) : mV l y ws rm av D tys w0 w1 post := by
  refine Met.ofW (cc := cc) (maxL := maxL) (ret := none) hy hw ?_
  intro p e s m args below meth c s₁ B hml hv
  obtain ⟨rfl, hP, hK, hD⟩ := hv
  have hts := atoms_spec (ws := ws) B.pre
  have hown : s.vm.findClass y.cls = some m.cls := findClass_of_methodNamed B.named
  have hl := lv_entry av (n := maxL) hav
  rw [lg_entry_eq]
  generalize (lg_sl av ++ List.replicate (maxL - (lg_sl av).length) Slot.unset).toArray = ls at hl ⊢
  refine body p e s m av.toArray below meth c _ B.exec B.bytes hml hown hts hK hP (inW_D hD) va_S.rf ?_ ls hl
  intro u H locs pc ls hpo hP1 hS1 hdg
  exact W.vret B.exec B.bytes B.returns (fun t ht hW => ⟨⟨u, rfl, hpo, (by show va_P D vwCl (w1 u) t.heap; rw [ht]; exact hP1)⟩, hS1.F ht⟩) hS1.2.2 hdg
variable {cl : List vw_C} {A : Nat → Prop} {a : Nat} {wz : va_W}
theorem ua_iast (hexec : p.tables.exec = Jvm.exec) (hb : c.code = cc) (hK : va_K D cl tys s) (hP : va_P D cl wz H) (hD : va_D A wz) (hS : va_S A H0 H locs) (q0 t0 : Nat) {cA : ClassId} {n : Nat} {f : Nat → Int32} (ha : wz[q0]? = some (a, .inl (cA, n, .inl f))) (ht : tys[t0]? = some (cA, .int)) {i : Nat} {x : Int32} (hi : i < n) (hn : n < 2 ^ 31) (hdg : decode cc pc = .ok (.iastore, 1))
    (kk : ∀ (H1 : Heap) (locs1 : List Loc), va_P D cl (wz.set q0 (a, .inl (cA, n, .inl (upd f i x)))) H1 → va_D A (wz.set q0 (a, .inl (cA, n, .inl (upd f i x)))) → va_S A H0 H1 locs1 → W p l e RM s m args below meth c H1 locs1 cells slots Q (F0 m (pc + 1) ls rest)) : W p l e RM s m args below meth c H locs cells slots Q (F0 m pc ls (.int x :: .int (nI i) :: .ref a :: rest)) := by
  refine va_iast hexec hb hK hP hD hS q0 t0 ha ht (vp_in_nI hi hn) hdg ?_
  rw [nI_clamp (by omega)]
  exact kk
theorem ua_zast (hexec : p.tables.exec = Jvm.exec) (hb : c.code = cc) (hK : va_K D cl tys s) (hP : va_P D cl wz H) (hD : va_D A wz) (hS : va_S A H0 H locs) (q0 t0 : Nat) {cA : ClassId} {n : Nat} {f : Nat → Int32} (ha : wz[q0]? = some (a, .inl (cA, n, .inl f))) (ht : tys[t0]? = some (cA, .boolean)) {i : Nat} {x : Int32} (hx01 : vp_nar .boolean x = x) (hi : i < n) (hn : n < 2 ^ 31) (hdg : decode cc pc = .ok (.bastore, 1))
    (kk : ∀ (H1 : Heap) (locs1 : List Loc), va_P D cl (wz.set q0 (a, .inl (cA, n, .inl (upd f i x)))) H1 → va_D A (wz.set q0 (a, .inl (cA, n, .inl (upd f i x)))) → va_S A H0 H1 locs1 → W p l e RM s m args below meth c H1 locs1 cells slots Q (F0 m (pc + 1) ls rest)) : W p l e RM s m args below meth c H locs cells slots Q (F0 m pc ls (.int x :: .int (nI i) :: .ref a :: rest)) := by
  refine va_zast hexec hb hK hP hD hS q0 t0 ha ht (vp_in_nI hi hn) hdg ?_
  rw [nI_clamp (by omega), hx01]
  exact kk
end MIA
end
section
/-! ===== the class, methods that only look ===== -/
theorem bb_div (P n : Nat) (hn : n ≤ 7) (hp : P < 2 ^ 32) : P / 2 ^ (3 * n) < 2 ^ 32 := Nat.lt_of_le_of_lt (Nat.div_le_self _ _) hp
theorem isP_f1 {n P : Nat} (h : ¬ P / 2 ^ (3 * n) = 0) : isP n P = false := by
  have h0 : Nat.beq (P / 2 ^ (3 * n)) 0 = false := by
    cases hb9 : Nat.beq (P / 2 ^ (3 * n)) 0
    · rfl
    · exact absurd (Nat.eq_of_beq_eq_true hb9) h
  simp [isP, h0]
theorem isP_f2 {n P : Nat} (h : ¬ mkF P n 0 0 = 1 * 2 ^ n - 1) : isP n P = false := by
  have h0 : Nat.beq (mkF P n 0 0) (1 * 2 ^ n - 1) = false := by
    cases hb9 : Nat.beq (mkF P n 0 0) (1 * 2 ^ n - 1)
    · rfl
    · exact absurd (Nat.eq_of_beq_eq_true hb9) h
  rw [isP, h0, Bool.and_false]
theorem isP_t {n P : Nat} (h1 : P / 2 ^ (3 * n) = 0) (h2 : mkF P n 0 0 = 1 * 2 ^ n - 1) : isP n P = true := by
  rw [isP, h1, h2, Nat.beq_refl, Nat.beq_refl]
  rfl
theorem isP_iff {n P : Nat} : isP n P = true ↔ P / 2 ^ (3 * n) = 0 ∧ mkF P n 0 0 = 1 * 2 ^ n - 1 := by
  constructor
  · intro h
    rw [isP, Bool.and_eq_true] at h
    exact ⟨Nat.eq_of_beq_eq_true h.1, Nat.eq_of_beq_eq_true h.2⟩
  · intro h
    exact isP_t h.1 h.2
section CXA
variable {l : Launch} {D : va_G} {cI cG cZ : ClassId} {h a g f : Nat} {ra : Nat → Nat} {n id ct : Nat} {fc : Int32} {ad fl : Nat → Int32} {R : Nat → Nat → Int32} {H : Heap}
theorem eX0_image : yX0_image.cls ≠ "java/lang/invoke/MethodHandle" ∧ yX0_image.cls ≠ "java/lang/invoke/VarHandle" ∧ (parseMethodDescriptor yX0_image.desc).map (fun d => d.parameters.length) = some 2 := by decide +kernel
set_option maxHeartbeats 4000000 in
set_option maxRecDepth 100000 in
theorem kX0_image {P i : Nat} (hp : P < 2 ^ 32) (hi : i ≤ 10) : pI l yX0_image wsX0_image ({ frames := 0, cells := 0, slots := 0, locals := 0 } : Room) [.int (nI (P)), .int (nI (i))] D (gT cI cG cZ) H (nI (im P i)) := by
  refine pI_ofW (cc := cX0_image) (maxL := 2) (ret := (some .int)) (by decide) rfl (Or.inl rfl) (Nat.le_of_ble_eq_true rfl) ?_
  intro p e s m args below meth c QQ hx hb hml hown hts hK hret ls hl
  have hl : lv_has ls 2 [(0, .int (nI (P))), (1, .int (nI (i)))] := hl
  have hown : s.vm.findClass RX0 = some m.cls := hown
  refine lv_iload_n hx hb dX0_image_0 rfl (lv_at hl 0 rfl) ?_
  refine lv_iconst (v := nI (3)) hx hb dX0_image_1 (by decide) ?_
  refine lv_iload_n hx hb dX0_image_2 rfl (lv_at hl 1 rfl) ?_
  refine lv_imul hx hb dX0_image_3 ?_
  refine pu_tp (pk_mul _ _) ?_
  refine lv_iushr (v := nI (P / 2 ^ (3 * i))) hx hb dX0_image_4 (nb_ushr (by omega) (by omega)) ?_
  refine lv_bipush (v := nI (7)) hx hb dX0_image_5 (by decide) ?_
  refine lv_iand hx hb dX0_image_7 ?_
  refine pu_tp (nb_and7 _) ?_
  exact hret _ _ _ (rfl) dX0_image_8
theorem eX0_slotOf : yX0_slotOf.cls ≠ "java/lang/invoke/MethodHandle" ∧ yX0_slotOf.cls ≠ "java/lang/invoke/VarHandle" ∧ (parseMethodDescriptor yX0_slotOf.desc).map (fun d => d.parameters.length) = some 2 := by decide +kernel
set_option maxHeartbeats 4000000 in
set_option maxRecDepth 100000 in
theorem kX0_slotOf {x z : Nat} : pI l yX0_slotOf wsX0_slotOf ({ frames := 0, cells := 0, slots := 0, locals := 0 } : Room) [.int (nI (x)), .int (nI (z))] D (gT cI cG cZ) H (nI (x * 8 + z)) := by
  refine pI_ofW (cc := cX0_slotOf) (maxL := 2) (ret := (some .int)) (by decide) rfl (Or.inl rfl) (Nat.le_of_ble_eq_true rfl) ?_
  intro p e s m args below meth c QQ hx hb hml hown hts hK hret ls hl
  have hl : lv_has ls 2 [(0, .int (nI (x))), (1, .int (nI (z)))] := hl
  have hown : s.vm.findClass RX0 = some m.cls := hown
  refine lv_iload_n hx hb dX0_slotOf_0 rfl (lv_at hl 0 rfl) ?_
  refine lv_bipush (v := nI (8)) hx hb dX0_slotOf_1 (by decide) ?_
  refine lv_imul hx hb dX0_slotOf_3 ?_
  refine pu_tp (pk_mul _ _) ?_
  refine lv_iload_n hx hb dX0_slotOf_4 rfl (lv_at hl 1 rfl) ?_
  refine lv_iadd hx hb dX0_slotOf_5 ?_
  refine pu_tp (nI_add _ _) ?_
  exact hret _ _ _ (rfl) dX0_slotOf_6
theorem eX0_compose : yX0_compose.cls = RX0 ∧ yX0_compose.cls ≠ "java/lang/invoke/MethodHandle" ∧ yX0_compose.cls ≠ "java/lang/invoke/VarHandle" ∧ (parseMethodDescriptor yX0_compose.desc).map (fun d => d.parameters.length) = some 2 := by decide +kernel
set_option maxHeartbeats 4000000 in
set_option maxRecDepth 100000 in
theorem kX0_compose (hP : va_P D vwCl (gW cI cG h a g f ra (nI n) (nI id) (nI ct) fc ad fl R) H) (hn : n ≤ 7) {P Q : Nat} (hp : P < 2 ^ 32) (hq : Q < 2 ^ 32) : pI l yX0_compose wsX0_compose ({ frames := 1, cells := 0, slots := 0, locals := 21 } : Room) [.ref h, .int (nI (P)), .int (nI (Q))] D (gT cI cG cZ) H (nI (tm n P Q)) := by
  refine pI_ofW (cc := cX0_compose) (maxL := 5) (ret := (some .int)) (by decide) rfl (Or.inl rfl) (Nat.le_of_ble_eq_true rfl) ?_
  intro p e s m args below meth c QQ hx hb hml hown hts hK hret ls hl
  have hl : lv_has ls 5 [(0, .ref h), (1, .int (nI (P))), (2, .int (nI (Q)))] := hl
  have hown : s.vm.findClass RX0 = some m.cls := hown
  have hin0 : ∀ w ∈ wsX00, w ∈ wsX0_compose := fun w h => List.mem_cons_of_mem _ (List.mem_append_right _ h)
  have hl_n : (Cond.fieldLink RX0 25 "PermGroup" "n" "I").before args s = true := hts _ (by decide +kernel)
  refine lv_iconst (v := nI (0)) hx hb dX0_compose_0 (by decide) ?_
  refine lv_istore_n (lv' := [(3, .int (nI (0))), (0, .ref h), (1, .int (nI (P))), (2, .int (nI (Q)))]) hx hb dX0_compose_1 rfl hl (by decide) rfl (fun ls hl => ?_)
  refine lv_iconst (v := nI (0)) hx hb dX0_compose_2 (by decide) ?_
  refine lv_istore (lv' := [(4, .int (nI (0))), (3, .int (nI (0))), (0, .ref h), (1, .int (nI (P))), (2, .int (nI (Q)))]) hx hb dX0_compose_3 hl (by decide) rfl (fun ls hl => ?_)
  have loop_5 : ∀ (k i x : Nat), (i + k = n) → (nI (tm n P Q) = nI (cpF P Q k i x)) → ∀ (ls : Array Slot), lv_has ls 5 [(0, .ref h), (1, .int (nI (P))), (2, .int (nI (Q))), (3, .int (nI (x))), (4, .int (nI (i)))] → W p l e ({ frames := 1, cells := 0, slots := 0, locals := 21 } : Room) s m args below meth c H [] 0 0 QQ (F0 m 5 ls []) := by
    intro k
    induction k with
    | zero =>
      intro i x hk hr ls hl
      refine lv_iload hx hb dX0_compose_5 (lv_at hl 4 rfl) ?_
      refine lv_aload_n hx hb dX0_compose_7 rfl (lv_at hl 0 rfl) ?_
      refine va_get (D := D) (ci := 0) (v := .int (nI (n))) (C := RX0) (T := TX0) (N := 7) hx hb hts hin0 hown hK hP 0 rfl rfl 0 (by decide) hl_n (fun _ h9 => h9) rfl dX0_compose_8 ?_
      refine lv_icmp_ge (tgt := 38) hx hb dX0_compose_11 (by decide) (fun c_11 => ?_) (fun c_11 => ?_)
      ·
        have c_11 := (nI_leI (by omega) (by omega)).mp c_11
        refine lv_iload_n hx hb dX0_compose_38 rfl (lv_at hl 3 rfl) ?_
        exact hret _ _ _ (hr.symm) dX0_compose_39
      ·
        have c_11 : ¬ _ := fun h9 => c_11 ((nI_leI (by omega) (by omega)).mpr h9)
        exfalso; omega
    | succ k ih_5 =>
      intro i x hk hr ls hl
      refine lv_iload hx hb dX0_compose_5 (lv_at hl 4 rfl) ?_
      refine lv_aload_n hx hb dX0_compose_7 rfl (lv_at hl 0 rfl) ?_
      refine va_get (D := D) (ci := 0) (v := .int (nI (n))) (C := RX0) (T := TX0) (N := 7) hx hb hts hin0 hown hK hP 0 rfl rfl 0 (by decide) hl_n (fun _ h9 => h9) rfl dX0_compose_8 ?_
      refine lv_icmp_ge (tgt := 38) hx hb dX0_compose_11 (by decide) (fun c_11 => ?_) (fun c_11 => ?_)
      ·
        have c_11 := (nI_leI (by omega) (by omega)).mp c_11
        exfalso; omega
      ·
        have c_11 : ¬ _ := fun h9 => c_11 ((nI_leI (by omega) (by omega)).mpr h9)
        refine lv_iload_n hx hb dX0_compose_14 rfl (lv_at hl 3 rfl) ?_
        refine lv_iload_n hx hb dX0_compose_15 rfl (lv_at hl 2 rfl) ?_
        refine lv_iload_n hx hb dX0_compose_16 rfl (lv_at hl 1 rfl) ?_
        refine lv_iload hx hb dX0_compose_17 (lv_at hl 4 rfl) ?_
        refine pu_S (As := [.int (nI (P)), .int (nI (i))]) (rest := [.int (nI (Q)), .int (nI (x))]) ⟨hx, hb, hml, hown, hts⟩ (kX0_image (P := P) (i := i) (by omega) (by omega)) (va_cwS 2 hts gX0_compose_X0_image rfl rfl rfl eX0_image ⟨by decide, by decide⟩) hK rfl hl.1 rfl (Nat.le_of_ble_eq_true rfl) dX0_compose_19 ⟨Nat.zero_le _, Nat.zero_le _⟩ ?_
        refine pu_S (As := [.int (nI (Q)), .int (nI (im (P) (i)))]) (rest := [.int (nI (x))]) ⟨hx, hb, hml, hown, hts⟩ (kX0_image (P := Q) (i := im P i) (by omega) (Nat.le_trans (im_le _ _) (by decide))) (va_cwS 2 hts gX0_compose_X0_image rfl rfl rfl eX0_image ⟨by decide, by decide⟩) hK rfl hl.1 rfl (Nat.le_of_ble_eq_true rfl) dX0_compose_22 ⟨Nat.zero_le _, Nat.zero_le _⟩ ?_
        refine lv_iconst (v := nI (3)) hx hb dX0_compose_25 (by decide) ?_
        refine lv_iload hx hb dX0_compose_26 (lv_at hl 4 rfl) ?_
        refine lv_imul hx hb dX0_compose_28 ?_
        refine pu_tp (pk_mul _ _) ?_
        refine lv_ishl hx hb dX0_compose_29 ?_
        refine pu_tp (nb_shl _ (by omega)) ?_
        refine lv_ior hx hb dX0_compose_30 ?_
        refine pu_tp (nb_or _ _) ?_
        refine lv_istore_n (lv' := [(3, .int (nI (x ||| ((im (Q) (im P i)) * 2 ^ (3 * i))))), (0, .ref h), (1, .int (nI (P))), (2, .int (nI (Q))), (4, .int (nI (i)))]) hx hb dX0_compose_31 rfl hl (by decide) rfl (fun ls hl => ?_)
        refine lv_iinc (v := nI (i + 1)) (lv' := [(4, .int (nI (i + 1))), (3, .int (nI (x ||| ((im (Q) (im P i)) * 2 ^ (3 * i))))), (0, .ref h), (1, .int (nI (P))), (2, .int (nI (Q)))]) hx hb dX0_compose_32 hl (k := 4) rfl (nI_1 _) (by decide) rfl (fun ls hl => ?_)
        refine lv_goto (tgt := 5) hx hb dX0_compose_35 (by decide) ?_
        exact ih_5 (i + 1) (x ||| im Q (im P i) * 2 ^ (3 * i)) (by omega) hr ls (lv_sub hl [2, 3, 4, 1, 0] rfl)
  exact loop_5 n 0 0 (by omega) rfl ls (lv_sub hl [2, 3, 4, 1, 0] rfl)
theorem eX0_invert : yX0_invert.cls = RX0 ∧ yX0_invert.cls ≠ "java/lang/invoke/MethodHandle" ∧ yX0_invert.cls ≠ "java/lang/invoke/VarHandle" ∧ (parseMethodDescriptor yX0_invert.desc).map (fun d => d.parameters.length) = some 1 := by decide +kernel
set_option maxHeartbeats 4000000 in
set_option maxRecDepth 100000 in
theorem kX0_invert (hP : va_P D vwCl (gW cI cG h a g f ra (nI n) (nI id) (nI ct) fc ad fl R) H) (hn : n ≤ 7) {P : Nat} (hp : P < 2 ^ 32) : pI l yX0_invert wsX0_invert ({ frames := 1, cells := 0, slots := 0, locals := 21 } : Room) [.ref h, .int (nI (P))] D (gT cI cG cZ) H (nI (bk n P)) := by
  refine pI_ofW (cc := cX0_invert) (maxL := 4) (ret := (some .int)) (by decide) rfl (Or.inl rfl) (Nat.le_of_ble_eq_true rfl) ?_
  intro p e s m args below meth c QQ hx hb hml hown hts hK hret ls hl
  have hl : lv_has ls 4 [(0, .ref h), (1, .int (nI (P)))] := hl
  have hown : s.vm.findClass RX0 = some m.cls := hown
  have hin0 : ∀ w ∈ wsX00, w ∈ wsX0_invert := fun w h => List.mem_cons_of_mem _ (List.mem_append_right _ h)
  have hl_n : (Cond.fieldLink RX0 25 "PermGroup" "n" "I").before args s = true := hts _ (by decide +kernel)
  refine lv_iconst (v := nI (0)) hx hb dX0_invert_0 (by decide) ?_
  refine lv_istore_n (lv' := [(2, .int (nI (0))), (0, .ref h), (1, .int (nI (P)))]) hx hb dX0_invert_1 rfl hl (by decide) rfl (fun ls hl => ?_)
  refine lv_iconst (v := nI (0)) hx hb dX0_invert_2 (by decide) ?_
  refine lv_istore_n (lv' := [(3, .int (nI (0))), (2, .int (nI (0))), (0, .ref h), (1, .int (nI (P)))]) hx hb dX0_invert_3 rfl hl (by decide) rfl (fun ls hl => ?_)
  have loop_4 : ∀ (k i x : Nat), (i + k = n) → (nI (bk n P) = nI (bkF P k i x)) → ∀ (ls : Array Slot), lv_has ls 4 [(0, .ref h), (1, .int (nI (P))), (2, .int (nI (x))), (3, .int (nI (i)))] → W p l e ({ frames := 1, cells := 0, slots := 0, locals := 21 } : Room) s m args below meth c H [] 0 0 QQ (F0 m 4 ls []) := by
    intro k
    induction k with
    | zero =>
      intro i x hk hr ls hl
      refine lv_iload_n hx hb dX0_invert_4 rfl (lv_at hl 3 rfl) ?_
      refine lv_aload_n hx hb dX0_invert_5 rfl (lv_at hl 0 rfl) ?_
      refine va_get (D := D) (ci := 0) (v := .int (nI (n))) (C := RX0) (T := TX0) (N := 7) hx hb hts hin0 hown hK hP 0 rfl rfl 0 (by decide) hl_n (fun _ h9 => h9) rfl dX0_invert_6 ?_
      refine lv_icmp_ge (tgt := 30) hx hb dX0_invert_9 (by decide) (fun c_9 => ?_) (fun c_9 => ?_)
      ·
        have c_9 := (nI_leI (by omega) (by omega)).mp c_9
        refine lv_iload_n hx hb dX0_invert_30 rfl (lv_at hl 2 rfl) ?_
        exact hret _ _ _ (hr.symm) dX0_invert_31
      ·
        have c_9 : ¬ _ := fun h9 => c_9 ((nI_leI (by omega) (by omega)).mpr h9)
        exfalso; omega
    | succ k ih_4 =>
      intro i x hk hr ls hl
      refine lv_iload_n hx hb dX0_invert_4 rfl (lv_at hl 3 rfl) ?_
      refine lv_aload_n hx hb dX0_invert_5 rfl (lv_at hl 0 rfl) ?_
      refine va_get (D := D) (ci := 0) (v := .int (nI (n))) (C := RX0) (T := TX0) (N := 7) hx hb hts hin0 hown hK hP 0 rfl rfl 0 (by decide) hl_n (fun _ h9 => h9) rfl dX0_invert_6 ?_
      refine lv_icmp_ge (tgt := 30) hx hb dX0_invert_9 (by decide) (fun c_9 => ?_) (fun c_9 => ?_)
      ·
        have c_9 := (nI_leI (by omega) (by omega)).mp c_9
        exfalso; omega
      ·
        have c_9 : ¬ _ := fun h9 => c_9 ((nI_leI (by omega) (by omega)).mpr h9)
        refine lv_iload_n hx hb dX0_invert_12 rfl (lv_at hl 2 rfl) ?_
        refine lv_iload_n hx hb dX0_invert_13 rfl (lv_at hl 3 rfl) ?_
        refine lv_iconst (v := nI (3)) hx hb dX0_invert_14 (by decide) ?_
        refine lv_iload_n hx hb dX0_invert_15 rfl (lv_at hl 1 rfl) ?_
        refine lv_iload_n hx hb dX0_invert_16 rfl (lv_at hl 3 rfl) ?_
        refine pu_S (As := [.int (nI (P)), .int (nI (i))]) (rest := [.int (nI (3)), .int (nI (i)), .int (nI (x))]) ⟨hx, hb, hml, hown, hts⟩ (kX0_image (P := P) (i := i) (by omega) (by omega)) (va_cwS 2 hts gX0_invert_X0_image rfl rfl rfl eX0_image ⟨by decide, by decide⟩) hK rfl hl.1 rfl (Nat.le_of_ble_eq_true rfl) dX0_invert_17 ⟨Nat.zero_le _, Nat.zero_le _⟩ ?_
        refine lv_imul hx hb dX0_invert_20 ?_
        refine pu_tp (pk_mul _ _) ?_
        refine lv_ishl hx hb dX0_invert_21 ?_
        refine pu_tp (nb_shl _ (by have := im_le P i; omega)) ?_
        refine lv_ior hx hb dX0_invert_22 ?_
        refine pu_tp (nb_or _ _) ?_
        refine lv_istore_n (lv' := [(2, .int (nI (x ||| (i * 2 ^ (3 * (im (P) (i))))))), (0, .ref h), (1, .int (nI (P))), (3, .int (nI (i)))]) hx hb dX0_invert_23 rfl hl (by decide) rfl (fun ls hl => ?_)
        refine lv_iinc (v := nI (i + 1)) (lv' := [(3, .int (nI (i + 1))), (2, .int (nI (x ||| (i * 2 ^ (3 * (im (P) (i))))))), (0, .ref h), (1, .int (nI (P)))]) hx hb dX0_invert_24 hl (k := 3) rfl (nI_1 _) (by decide) rfl (fun ls hl => ?_)
        refine lv_goto (tgt := 4) hx hb dX0_invert_27 (by decide) ?_
        exact ih_4 (i + 1) (x ||| i * 2 ^ (3 * im P i)) (by omega) hr ls (lv_sub hl [2, 3, 1, 0] rfl)
  exact loop_4 n 0 0 (by omega) rfl ls (lv_sub hl [2, 3, 1, 0] rfl)
theorem eX0_isPermutation : yX0_isPermutation.cls = RX0 ∧ yX0_isPermutation.cls ≠ "java/lang/invoke/MethodHandle" ∧ yX0_isPermutation.cls ≠ "java/lang/invoke/VarHandle" ∧ (parseMethodDescriptor yX0_isPermutation.desc).map (fun d => d.parameters.length) = some 1 := by decide +kernel
set_option maxHeartbeats 4000000 in
set_option maxRecDepth 100000 in
theorem kX0_isPermutation (hP : va_P D vwCl (gW cI cG h a g f ra (nI n) (nI id) (nI ct) fc ad fl R) H) (hn : n ≤ 7) {P : Nat} (hp : P < 2 ^ 32) : pI l yX0_isPermutation wsX0_isPermutation ({ frames := 1, cells := 0, slots := 0, locals := 21 } : Room) [.ref h, .int (nI (P))] D (gT cI cG cZ) H (b01 (isP n P)) := by
  refine pI_ofW (cc := cX0_isPermutation) (maxL := 4) (ret := (some .boolean)) (by decide) rfl (Or.inr ⟨rfl, b01_or _⟩) (Nat.le_of_ble_eq_true rfl) ?_
  intro p e s m args below meth c QQ hx hb hml hown hts hK hret ls hl
  have hl : lv_has ls 4 [(0, .ref h), (1, .int (nI (P)))] := hl
  have hown : s.vm.findClass RX0 = some m.cls := hown
  have hin0 : ∀ w ∈ wsX00, w ∈ wsX0_isPermutation := fun w h => List.mem_cons_of_mem _ (List.mem_append_right _ h)
  have hl_n : (Cond.fieldLink RX0 25 "PermGroup" "n" "I").before args s = true := hts _ (by decide +kernel)
  refine lv_iload_n hx hb dX0_isPermutation_0 rfl (lv_at hl 1 rfl) ?_
  refine lv_iconst (v := nI (3)) hx hb dX0_isPermutation_1 (by decide) ?_
  refine lv_aload_n hx hb dX0_isPermutation_2 rfl (lv_at hl 0 rfl) ?_
  refine va_get (D := D) (ci := 0) (v := .int (nI (n))) (C := RX0) (T := TX0) (N := 7) hx hb hts hin0 hown hK hP 0 rfl rfl 0 (by decide) hl_n (fun _ h9 => h9) rfl dX0_isPermutation_3 ?_
  refine lv_imul hx hb dX0_isPermutation_6 ?_
  refine pu_tp (pk_mul _ _) ?_
  refine lv_iushr (v := nI (P / 2 ^ (3 * n))) hx hb dX0_isPermutation_7 (nb_ushr (by omega) (by omega)) ?_
  refine lv_if_eq (tgt := 13) hx hb dX0_isPermutation_8 (by decide) (fun c_8 => ?_) (fun c_8 => ?_)
  ·
    have c_8 := (nb_eq0 (bb_div P n hn hp)).mp c_8
    refine lv_iconst (v := nI (0)) hx hb dX0_isPermutation_13 (by decide) ?_
    refine lv_istore_n (lv' := [(2, .int (nI (0))), (0, .ref h), (1, .int (nI (P)))]) hx hb dX0_isPermutation_14 rfl hl (by decide) rfl (fun ls hl => ?_)
    refine lv_iconst (v := nI (0)) hx hb dX0_isPermutation_15 (by decide) ?_
    refine lv_istore_n (lv' := [(3, .int (nI (0))), (2, .int (nI (0))), (0, .ref h), (1, .int (nI (P)))]) hx hb dX0_isPermutation_16 rfl hl (by decide) rfl (fun ls hl => ?_)
    have loop_17 : ∀ (k i x : Nat), (i + k = n) → (mkF P n 0 0 = mkF P k i x) → (x < 2 ^ 8) → ∀ (ls : Array Slot), lv_has ls 4 [(0, .ref h), (1, .int (nI (P))), (2, .int (nI (x))), (3, .int (nI (i)))] → W p l e ({ frames := 1, cells := 0, slots := 0, locals := 21 } : Room) s m args below meth c H [] 0 0 QQ (F0 m 17 ls []) := by
      intro k
      induction k with
      | zero =>
        intro i x hk hr hxl ls hl
        refine lv_iload_n hx hb dX0_isPermutation_17 rfl (lv_at hl 3 rfl) ?_
        refine lv_aload_n hx hb dX0_isPermutation_18 rfl (lv_at hl 0 rfl) ?_
        refine va_get (D := D) (ci := 0) (v := .int (nI (n))) (C := RX0) (T := TX0) (N := 7) hx hb hts hin0 hown hK hP 0 rfl rfl 0 (by decide) hl_n (fun _ h9 => h9) rfl dX0_isPermutation_19 ?_
        refine lv_icmp_ge (tgt := 41) hx hb dX0_isPermutation_22 (by decide) (fun c_22 => ?_) (fun c_22 => ?_)
        ·
          have c_22 := (nI_leI (by omega) (by omega)).mp c_22
          refine lv_iload_n hx hb dX0_isPermutation_41 rfl (lv_at hl 2 rfl) ?_
          refine lv_iconst (v := nI (1)) hx hb dX0_isPermutation_42 (by decide) ?_
          refine lv_aload_n hx hb dX0_isPermutation_43 rfl (lv_at hl 0 rfl) ?_
          refine va_get (D := D) (ci := 0) (v := .int (nI (n))) (C := RX0) (T := TX0) (N := 7) hx hb hts hin0 hown hK hP 0 rfl rfl 0 (by decide) hl_n (fun _ h9 => h9) rfl dX0_isPermutation_44 ?_
          refine lv_ishl hx hb dX0_isPermutation_47 ?_
          refine pu_tp (nb_shl _ (by omega)) ?_
          refine lv_iconst (v := nI (1)) hx hb dX0_isPermutation_48 (by decide) ?_
          refine lv_isub hx hb dX0_isPermutation_49 ?_
          refine pu_tp (pk_sub (by have := Nat.two_pow_pos n; omega)) ?_
          refine lv_icmp_ne (tgt := 57) hx hb dX0_isPermutation_50 (by decide) (fun c_50 => ?_) (fun c_50 => ?_)
          ·
            have c_50 : ¬ _ := fun h9 => c_50 ((nb_eqI (by omega) (by have := bd_pow hn; omega)).mpr h9)
            refine lv_iconst (v := nI (0)) hx hb dX0_isPermutation_57 (by decide) ?_
            exact hret _ _ _ (by rw [isP_f2 (fun q => c_50 (hr.symm.trans q))]; rfl) dX0_isPermutation_58
          ·
            have c_50 := (nb_eqI (by omega) (by have := bd_pow hn; omega)).mp c_50
            refine lv_iconst (v := nI (1)) hx hb dX0_isPermutation_53 (by decide) ?_
            refine lv_goto (tgt := 58) hx hb dX0_isPermutation_54 (by decide) ?_
            exact hret _ _ _ (by rw [isP_t c_8 (hr.trans c_50)]; rfl) dX0_isPermutation_58
        ·
          have c_22 : ¬ _ := fun h9 => c_22 ((nI_leI (by omega) (by omega)).mpr h9)
          exfalso; omega
      | succ k ih_17 =>
        intro i x hk hr hxl ls hl
        refine lv_iload_n hx hb dX0_isPermutation_17 rfl (lv_at hl 3 rfl) ?_
        refine lv_aload_n hx hb dX0_isPermutation_18 rfl (lv_at hl 0 rfl) ?_
        refine va_get (D := D) (ci := 0) (v := .int (nI (n))) (C := RX0) (T := TX0) (N := 7) hx hb hts hin0 hown hK hP 0 rfl rfl 0 (by decide) hl_n (fun _ h9 => h9) rfl dX0_isPermutation_19 ?_
        refine lv_icmp_ge (tgt := 41) hx hb dX0_isPermutation_22 (by decide) (fun c_22 => ?_) (fun c_22 => ?_)
        ·
          have c_22 := (nI_leI (by omega) (by omega)).mp c_22
          exfalso; omega
        ·
          have c_22 : ¬ _ := fun h9 => c_22 ((nI_leI (by omega) (by omega)).mpr h9)
          refine lv_iload_n hx hb dX0_isPermutation_25 rfl (lv_at hl 2 rfl) ?_
          refine lv_iconst (v := nI (1)) hx hb dX0_isPermutation_26 (by decide) ?_
          refine lv_iload_n hx hb dX0_isPermutation_27 rfl (lv_at hl 1 rfl) ?_
          refine lv_iload_n hx hb dX0_isPermutation_28 rfl (lv_at hl 3 rfl) ?_
          refine pu_S (As := [.int (nI (P)), .int (nI (i))]) (rest := [.int (nI (1)), .int (nI (x))]) ⟨hx, hb, hml, hown, hts⟩ (kX0_image (P := P) (i := i) (by omega) (by omega)) (va_cwS 2 hts gX0_isPermutation_X0_image rfl rfl rfl eX0_image ⟨by decide, by decide⟩) hK rfl hl.1 rfl (Nat.le_of_ble_eq_true rfl) dX0_isPermutation_29 ⟨Nat.zero_le _, Nat.zero_le _⟩ ?_
          refine lv_ishl hx hb dX0_isPermutation_32 ?_
          refine pu_tp (nb_shl _ (by have := im_le P i; omega)) ?_
          refine lv_ior hx hb dX0_isPermutation_33 ?_
          refine pu_tp (nb_or _ _) ?_
          refine lv_istore_n (lv' := [(2, .int (nI (x ||| (1 * 2 ^ (im (P) (i)))))), (0, .ref h), (1, .int (nI (P))), (3, .int (nI (i)))]) hx hb dX0_isPermutation_34 rfl hl (by decide) rfl (fun ls hl => ?_)
          refine lv_iinc (v := nI (i + 1)) (lv' := [(3, .int (nI (i + 1))), (2, .int (nI (x ||| (1 * 2 ^ (im (P) (i)))))), (0, .ref h), (1, .int (nI (P)))]) hx hb dX0_isPermutation_35 hl (k := 3) rfl (nI_1 _) (by decide) rfl (fun ls hl => ?_)
          refine lv_goto (tgt := 17) hx hb dX0_isPermutation_38 (by decide) ?_
          exact ih_17 (i + 1) (x ||| 1 * 2 ^ (im P i)) (by omega) hr (Nat.or_lt_two_pow hxl (bd_pow (im_le _ _))) ls (lv_sub hl [2, 3, 1, 0] rfl)
    exact loop_17 n 0 0 (by omega) rfl (by decide) ls (lv_sub hl [2, 3, 1, 0] rfl)
  ·
    have c_8 : ¬ _ := fun h9 => c_8 ((nb_eq0 (bb_div P n hn hp)).mpr h9)
    refine lv_iconst (v := nI (0)) hx hb dX0_isPermutation_11 (by decide) ?_
    exact hret _ _ _ (by rw [isP_f1 c_8]; rfl) dX0_isPermutation_12
theorem eX0_isOdd : yX0_isOdd.cls = RX0 ∧ yX0_isOdd.cls ≠ "java/lang/invoke/MethodHandle" ∧ yX0_isOdd.cls ≠ "java/lang/invoke/VarHandle" ∧ (parseMethodDescriptor yX0_isOdd.desc).map (fun d => d.parameters.length) = some 1 := by decide +kernel
set_option maxHeartbeats 4000000 in
set_option maxRecDepth 100000 in
theorem kX0_isOdd (hP : va_P D vwCl (gW cI cG h a g f ra (nI n) (nI id) (nI ct) fc ad fl R) H) (hn : n ≤ 7) {P : Nat} (hp : P < 2 ^ 32) (hn1 : 1 ≤ n) : pI l yX0_isOdd wsX0_isOdd ({ frames := 1, cells := 0, slots := 0, locals := 21 } : Room) [.ref h, .int (nI (P))] D (gT cI cG cZ) H (b01 (isO n P)) := by
  refine pI_ofW (cc := cX0_isOdd) (maxL := 5) (ret := (some .boolean)) (by decide) rfl (Or.inr ⟨rfl, b01_or _⟩) (Nat.le_of_ble_eq_true rfl) ?_
  intro p e s m args below meth c QQ hx hb hml hown hts hK hret ls hl
  have hl : lv_has ls 5 [(0, .ref h), (1, .int (nI (P)))] := hl
  have hown : s.vm.findClass RX0 = some m.cls := hown
  have hin0 : ∀ w ∈ wsX00, w ∈ wsX0_isOdd := fun w h => List.mem_cons_of_mem _ (List.mem_append_right _ h)
  have hl_n : (Cond.fieldLink RX0 25 "PermGroup" "n" "I").before args s = true := hts _ (by decide +kernel)
  refine lv_iconst (v := nI (0)) hx hb dX0_isOdd_0 (by decide) ?_
  refine lv_istore_n (lv' := [(2, .int (nI (0))), (0, .ref h), (1, .int (nI (P)))]) hx hb dX0_isOdd_1 rfl hl (by decide) rfl (fun ls hl => ?_)
  refine lv_iconst (v := nI (1)) hx hb dX0_isOdd_2 (by decide) ?_
  refine lv_istore_n (lv' := [(3, .int (nI (1))), (2, .int (nI (0))), (0, .ref h), (1, .int (nI (P)))]) hx hb dX0_isOdd_3 rfl hl (by decide) rfl (fun ls hl => ?_)
  have loop_4 : ∀ (k j x : Nat), (j + k = n) → (odF P (n - 1) 1 0 = odF P k j x) → ∀ (ls : Array Slot), lv_has ls 5 [(0, .ref h), (1, .int (nI (P))), (2, .int (nI (x))), (3, .int (nI (j)))] → W p l e ({ frames := 1, cells := 0, slots := 0, locals := 21 } : Room) s m args below meth c H [] 0 0 QQ (F0 m 4 ls []) := by
    intro k
    induction k with
    | zero =>
      intro j x hk hr ls hl
      refine lv_iload_n hx hb dX0_isOdd_4 rfl (lv_at hl 3 rfl) ?_
      refine lv_aload_n hx hb dX0_isOdd_5 rfl (lv_at hl 0 rfl) ?_
      refine va_get (D := D) (ci := 0) (v := .int (nI (n))) (C := RX0) (T := TX0) (N := 7) hx hb hts hin0 hown hK hP 0 rfl rfl 0 (by decide) hl_n (fun _ h9 => h9) rfl dX0_isOdd_6 ?_
      refine lv_icmp_ge (tgt := 50) hx hb dX0_isOdd_9 (by decide) (fun c_9 => ?_) (fun c_9 => ?_)
      ·
        have c_9 := (nI_leI (by omega) (by omega)).mp c_9
        refine lv_iload_n hx hb dX0_isOdd_50 rfl (lv_at hl 2 rfl) ?_
        refine lv_iconst (v := nI (1)) hx hb dX0_isOdd_51 (by decide) ?_
        refine lv_iand hx hb dX0_isOdd_52 ?_
        refine pu_tp (nb_and1 _) ?_
        refine lv_iconst (v := nI (1)) hx hb dX0_isOdd_53 (by decide) ?_
        refine lv_icmp_ne (tgt := 61) hx hb dX0_isOdd_54 (by decide) (fun c_54 => ?_) (fun c_54 => ?_)
        ·
          have c_54 : ¬ _ := fun h9 => c_54 ((nb_eqI (by omega) (by omega)).mpr h9)
          refine lv_iconst (v := nI (0)) hx hb dX0_isOdd_61 (by decide) ?_
          exact hret _ _ _ (by rw [isO, hr]; show nI 0 = b01 (Nat.beq (x % 2) 1); rw [show x % 2 = 0 by omega]; rfl) dX0_isOdd_62
        ·
          have c_54 := (nb_eqI (by omega) (by omega)).mp c_54
          refine lv_iconst (v := nI (1)) hx hb dX0_isOdd_57 (by decide) ?_
          refine lv_goto (tgt := 62) hx hb dX0_isOdd_58 (by decide) ?_
          exact hret _ _ _ (by rw [isO, hr]; show nI 1 = b01 (Nat.beq (x % 2) 1); rw [c_54]; rfl) dX0_isOdd_62
      ·
        have c_9 : ¬ _ := fun h9 => c_9 ((nI_leI (by omega) (by omega)).mpr h9)
        exfalso; omega
    | succ k ih_4 =>
      intro j x hk hr ls hl
      refine lv_iload_n hx hb dX0_isOdd_4 rfl (lv_at hl 3 rfl) ?_
      refine lv_aload_n hx hb dX0_isOdd_5 rfl (lv_at hl 0 rfl) ?_
      refine va_get (D := D) (ci := 0) (v := .int (nI (n))) (C := RX0) (T := TX0) (N := 7) hx hb hts hin0 hown hK hP 0 rfl rfl 0 (by decide) hl_n (fun _ h9 => h9) rfl dX0_isOdd_6 ?_
      refine lv_icmp_ge (tgt := 50) hx hb dX0_isOdd_9 (by decide) (fun c_9 => ?_) (fun c_9 => ?_)
      ·
        have c_9 := (nI_leI (by omega) (by omega)).mp c_9
        exfalso; omega
      ·
        have c_9 : ¬ _ := fun h9 => c_9 ((nI_leI (by omega) (by omega)).mpr h9)
        refine lv_iconst (v := nI (0)) hx hb dX0_isOdd_12 (by decide) ?_
        refine lv_istore (lv' := [(4, .int (nI (0))), (0, .ref h), (1, .int (nI (P))), (2, .int (nI (x))), (3, .int (nI (j)))]) hx hb dX0_isOdd_13 hl (by decide) rfl (fun ls hl => ?_)
        have loop_15 : ∀ (k2 i z : Nat), (i + k2 = j) → (odI P j j 0 x = odI P j k2 i z) → ∀ (ls : Array Slot), lv_has ls 5 [(0, .ref h), (1, .int (nI (P))), (2, .int (nI (z))), (3, .int (nI (j))), (4, .int (nI (i)))] → W p l e ({ frames := 1, cells := 0, slots := 0, locals := 21 } : Room) s m args below meth c H [] 0 0 QQ (F0 m 15 ls []) := by
          intro k2
          induction k2 with
          | zero =>
            intro i z hk2 hr2 ls hl
            refine lv_iload hx hb dX0_isOdd_15 (lv_at hl 4 rfl) ?_
            refine lv_iload_n hx hb dX0_isOdd_17 rfl (lv_at hl 3 rfl) ?_
            refine lv_icmp_ge (tgt := 44) hx hb dX0_isOdd_18 (by decide) (fun c_18 => ?_) (fun c_18 => ?_)
            ·
              have c_18 := (nI_leI (by omega) (by omega)).mp c_18
              refine lv_iinc (v := nI (j + 1)) (lv' := [(3, .int (nI (j + 1))), (0, .ref h), (1, .int (nI (P))), (2, .int (nI (z))), (4, .int (nI (i)))]) hx hb dX0_isOdd_44 hl (k := 3) rfl (nI_1 _) (by decide) rfl (fun ls hl => ?_)
              refine lv_goto (tgt := 4) hx hb dX0_isOdd_47 (by decide) ?_
              exact ih_4 (j + 1) z (by omega) (by have hz : z = odI P j j 0 x := hr2.symm; rw [hz]; exact hr) ls (lv_sub hl [1, 2, 3, 0] rfl)
            ·
              have c_18 : ¬ _ := fun h9 => c_18 ((nI_leI (by omega) (by omega)).mpr h9)
              exfalso; omega
          | succ k2 ih_15 =>
            intro i z hk2 hr2 ls hl
            refine lv_iload hx hb dX0_isOdd_15 (lv_at hl 4 rfl) ?_
            refine lv_iload_n hx hb dX0_isOdd_17 rfl (lv_at hl 3 rfl) ?_
            refine lv_icmp_ge (tgt := 44) hx hb dX0_isOdd_18 (by decide) (fun c_18 => ?_) (fun c_18 => ?_)
            ·
              have c_18 := (nI_leI (by omega) (by omega)).mp c_18
              exfalso; omega
            ·
              have c_18 : ¬ _ := fun h9 => c_18 ((nI_leI (by omega) (by omega)).mpr h9)
              refine lv_iload_n hx hb dX0_isOdd_21 rfl (lv_at hl 1 rfl) ?_
              refine lv_iload hx hb dX0_isOdd_22 (lv_at hl 4 rfl) ?_
              refine pu_S (As := [.int (nI (P)), .int (nI (i))]) (rest := []) ⟨hx, hb, hml, hown, hts⟩ (kX0_image (P := P) (i := i) (by omega) (by omega)) (va_cwS 2 hts gX0_isOdd_X0_image rfl rfl rfl eX0_image ⟨by decide, by decide⟩) hK rfl hl.1 rfl (Nat.le_of_ble_eq_true rfl) dX0_isOdd_24 ⟨Nat.zero_le _, Nat.zero_le _⟩ ?_
              refine lv_iload_n hx hb dX0_isOdd_27 rfl (lv_at hl 1 rfl) ?_
              refine lv_iload_n hx hb dX0_isOdd_28 rfl (lv_at hl 3 rfl) ?_
              refine pu_S (As := [.int (nI (P)), .int (nI (j))]) (rest := [.int (nI (im (P) (i)))]) ⟨hx, hb, hml, hown, hts⟩ (kX0_image (P := P) (i := j) (by omega) (by omega)) (va_cwS 2 hts gX0_isOdd_X0_image rfl rfl rfl eX0_image ⟨by decide, by decide⟩) hK rfl hl.1 rfl (Nat.le_of_ble_eq_true rfl) dX0_isOdd_29 ⟨Nat.zero_le _, Nat.zero_le _⟩ ?_
              refine lv_icmp_le (tgt := 38) hx hb dX0_isOdd_32 (by decide) (fun c_32 => ?_) (fun c_32 => ?_)
              ·
                have c_32 := (nI_leI (Nat.lt_trans (im_lt _ _) (by decide)) (Nat.lt_trans (im_lt _ _) (by decide))).mp c_32
                refine lv_iinc (v := nI (i + 1)) (lv' := [(4, .int (nI (i + 1))), (0, .ref h), (1, .int (nI (P))), (2, .int (nI (z))), (3, .int (nI (j)))]) hx hb dX0_isOdd_38 hl (k := 4) rfl (nI_1 _) (by decide) rfl (fun ls hl => ?_)
                refine lv_goto (tgt := 15) hx hb dX0_isOdd_41 (by decide) ?_
                exact ih_15 (i + 1) z (by omega) (hr2.trans (odI_f (Nat.not_lt.mpr c_32))) ls (lv_sub hl [1, 2, 3, 4, 0] rfl)
              ·
                have c_32 : ¬ _ := fun h9 => c_32 ((nI_leI (Nat.lt_trans (im_lt _ _) (by decide)) (Nat.lt_trans (im_lt _ _) (by decide))).mpr h9)
                refine lv_iinc (v := nI (z + 1)) (lv' := [(2, .int (nI (z + 1))), (0, .ref h), (1, .int (nI (P))), (3, .int (nI (j))), (4, .int (nI (i)))]) hx hb dX0_isOdd_35 hl (k := 2) rfl (nI_1 _) (by decide) rfl (fun ls hl => ?_)
                refine lv_iinc (v := nI (i + 1)) (lv' := [(4, .int (nI (i + 1))), (2, .int (nI (z + 1))), (0, .ref h), (1, .int (nI (P))), (3, .int (nI (j)))]) hx hb dX0_isOdd_38 hl (k := 4) rfl (nI_1 _) (by decide) rfl (fun ls hl => ?_)
                refine lv_goto (tgt := 15) hx hb dX0_isOdd_41 (by decide) ?_
                exact ih_15 (i + 1) (z + 1) (by omega) (hr2.trans (odI_t (Nat.lt_of_not_le c_32))) ls (lv_sub hl [2, 3, 1, 4, 0] rfl)
        exact loop_15 j 0 x (by omega) rfl ls (lv_sub hl [1, 2, 3, 4, 0] rfl)
  exact loop_4 (n - 1) 1 0 (by omega) rfl ls (lv_sub hl [2, 3, 1, 0] rfl)
theorem eX0_imagesOf : yX0_imagesOf.cls = RX0 ∧ yX0_imagesOf.cls ≠ "java/lang/invoke/MethodHandle" ∧ yX0_imagesOf.cls ≠ "java/lang/invoke/VarHandle" ∧ (parseMethodDescriptor yX0_imagesOf.desc).map (fun d => d.parameters.length) = some 2 := by decide +kernel
set_option maxHeartbeats 4000000 in
set_option maxRecDepth 100000 in
theorem kX0_imagesOf (hP : va_P D vwCl (gW cI cG h a g f ra (nI n) (nI id) (nI ct) fc ad fl R) H) (hn : n ≤ 7) {S P : Nat} (hs : S < 2 ^ 32) (hp : P < 2 ^ 32) : pI l yX0_imagesOf wsX0_imagesOf ({ frames := 1, cells := 0, slots := 0, locals := 21 } : Room) [.ref h, .int (nI (S)), .int (nI (P))] D (gT cI cG cZ) H (nI (imF S P n 0 0)) := by
  refine pI_ofW (cc := cX0_imagesOf) (maxL := 5) (ret := (some .int)) (by decide) rfl (Or.inl rfl) (Nat.le_of_ble_eq_true rfl) ?_
  intro p e s m args below meth c QQ hx hb hml hown hts hK hret ls hl
  have hl : lv_has ls 5 [(0, .ref h), (1, .int (nI (S))), (2, .int (nI (P)))] := hl
  have hown : s.vm.findClass RX0 = some m.cls := hown
  have hin0 : ∀ w ∈ wsX00, w ∈ wsX0_imagesOf := fun w h => List.mem_cons_of_mem _ (List.mem_append_right _ h)
  have hl_n : (Cond.fieldLink RX0 25 "PermGroup" "n" "I").before args s = true := hts _ (by decide +kernel)
  refine lv_iconst (v := nI (0)) hx hb dX0_imagesOf_0 (by decide) ?_
  refine lv_istore_n (lv' := [(3, .int (nI (0))), (0, .ref h), (1, .int (nI (S))), (2, .int (nI (P)))]) hx hb dX0_imagesOf_1 rfl hl (by decide) rfl (fun ls hl => ?_)
  refine lv_iconst (v := nI (0)) hx hb dX0_imagesOf_2 (by decide) ?_
  refine lv_istore (lv' := [(4, .int (nI (0))), (3, .int (nI (0))), (0, .ref h), (1, .int (nI (S))), (2, .int (nI (P)))]) hx hb dX0_imagesOf_3 hl (by decide) rfl (fun ls hl => ?_)
  have loop_5 : ∀ (k i x : Nat), (i + k = n) → (nI (imF S P n 0 0) = nI (imF S P k i x)) → ∀ (ls : Array Slot), lv_has ls 5 [(0, .ref h), (1, .int (nI (S))), (2, .int (nI (P))), (3, .int (nI (x))), (4, .int (nI (i)))] → W p l e ({ frames := 1, cells := 0, slots := 0, locals := 21 } : Room) s m args below meth c H [] 0 0 QQ (F0 m 5 ls []) := by
    intro k
    induction k with
    | zero =>
      intro i x hk hr ls hl
      refine lv_iload hx hb dX0_imagesOf_5 (lv_at hl 4 rfl) ?_
      refine lv_aload_n hx hb dX0_imagesOf_7 rfl (lv_at hl 0 rfl) ?_
      refine va_get (D := D) (ci := 0) (v := .int (nI (n))) (C := RX0) (T := TX0) (N := 7) hx hb hts hin0 hown hK hP 0 rfl rfl 0 (by decide) hl_n (fun _ h9 => h9) rfl dX0_imagesOf_8 ?_
      refine lv_icmp_ge (tgt := 41) hx hb dX0_imagesOf_11 (by decide) (fun c_11 => ?_) (fun c_11 => ?_)
      ·
        have c_11 := (nI_leI (by omega) (by omega)).mp c_11
        refine lv_iload_n hx hb dX0_imagesOf_41 rfl (lv_at hl 3 rfl) ?_
        exact hret _ _ _ (hr.symm) dX0_imagesOf_42
      ·
        have c_11 : ¬ _ := fun h9 => c_11 ((nI_leI (by omega) (by omega)).mpr h9)
        exfalso; omega
    | succ k ih_5 =>
      intro i x hk hr ls hl
      refine lv_iload hx hb dX0_imagesOf_5 (lv_at hl 4 rfl) ?_
      refine lv_aload_n hx hb dX0_imagesOf_7 rfl (lv_at hl 0 rfl) ?_
      refine va_get (D := D) (ci := 0) (v := .int (nI (n))) (C := RX0) (T := TX0) (N := 7) hx hb hts hin0 hown hK hP 0 rfl rfl 0 (by decide) hl_n (fun _ h9 => h9) rfl dX0_imagesOf_8 ?_
      refine lv_icmp_ge (tgt := 41) hx hb dX0_imagesOf_11 (by decide) (fun c_11 => ?_) (fun c_11 => ?_)
      ·
        have c_11 := (nI_leI (by omega) (by omega)).mp c_11
        exfalso; omega
      ·
        have c_11 : ¬ _ := fun h9 => c_11 ((nI_leI (by omega) (by omega)).mpr h9)
        refine lv_iload_n hx hb dX0_imagesOf_14 rfl (lv_at hl 1 rfl) ?_
        refine lv_iload hx hb dX0_imagesOf_15 (lv_at hl 4 rfl) ?_
        refine lv_iushr (v := nI (S / 2 ^ i)) hx hb dX0_imagesOf_17 (nb_ushr (by omega) (by omega)) ?_
        refine lv_iconst (v := nI (1)) hx hb dX0_imagesOf_18 (by decide) ?_
        refine lv_iand hx hb dX0_imagesOf_19 ?_
        refine pu_tp (nb_and1 _) ?_
        refine lv_iconst (v := nI (1)) hx hb dX0_imagesOf_20 (by decide) ?_
        refine lv_icmp_ne (tgt := 35) hx hb dX0_imagesOf_21 (by decide) (fun c_21 => ?_) (fun c_21 => ?_)
        ·
          have c_21 : ¬ _ := fun h9 => c_21 ((nb_eqI (by omega) (by omega)).mpr h9)
          refine lv_iinc (v := nI (i + 1)) (lv' := [(4, .int (nI (i + 1))), (0, .ref h), (1, .int (nI (S))), (2, .int (nI (P))), (3, .int (nI (x)))]) hx hb dX0_imagesOf_35 hl (k := 4) rfl (nI_1 _) (by decide) rfl (fun ls hl => ?_)
          refine lv_goto (tgt := 5) hx hb dX0_imagesOf_38 (by decide) ?_
          exact ih_5 (i + 1) x (by omega) (hr.trans (congrArg nI (imF_f c_21))) ls (lv_sub hl [1, 2, 3, 4, 0] rfl)
        ·
          have c_21 := (nb_eqI (by omega) (by omega)).mp c_21
          refine lv_iload_n hx hb dX0_imagesOf_24 rfl (lv_at hl 3 rfl) ?_
          refine lv_iconst (v := nI (1)) hx hb dX0_imagesOf_25 (by decide) ?_
          refine lv_iload_n hx hb dX0_imagesOf_26 rfl (lv_at hl 2 rfl) ?_
          refine lv_iload hx hb dX0_imagesOf_27 (lv_at hl 4 rfl) ?_
          refine pu_S (As := [.int (nI (P)), .int (nI (i))]) (rest := [.int (nI (1)), .int (nI (x))]) ⟨hx, hb, hml, hown, hts⟩ (kX0_image (P := P) (i := i) (by omega) (by omega)) (va_cwS 2 hts gX0_imagesOf_X0_image rfl rfl rfl eX0_image ⟨by decide, by decide⟩) hK rfl hl.1 rfl (Nat.le_of_ble_eq_true rfl) dX0_imagesOf_29 ⟨Nat.zero_le _, Nat.zero_le _⟩ ?_
          refine lv_ishl hx hb dX0_imagesOf_32 ?_
          refine pu_tp (nb_shl _ (by have := im_le P i; omega)) ?_
          refine lv_ior hx hb dX0_imagesOf_33 ?_
          refine pu_tp (nb_or _ _) ?_
          refine lv_istore_n (lv' := [(3, .int (nI (x ||| (1 * 2 ^ (im (P) (i)))))), (0, .ref h), (1, .int (nI (S))), (2, .int (nI (P))), (4, .int (nI (i)))]) hx hb dX0_imagesOf_34 rfl hl (by decide) rfl (fun ls hl => ?_)
          refine lv_iinc (v := nI (i + 1)) (lv' := [(4, .int (nI (i + 1))), (3, .int (nI (x ||| (1 * 2 ^ (im (P) (i)))))), (0, .ref h), (1, .int (nI (S))), (2, .int (nI (P)))]) hx hb dX0_imagesOf_35 hl (k := 4) rfl (nI_1 _) (by decide) rfl (fun ls hl => ?_)
          refine lv_goto (tgt := 5) hx hb dX0_imagesOf_38 (by decide) ?_
          exact ih_5 (i + 1) (x ||| 1 * 2 ^ (im P i)) (by omega) (hr.trans (congrArg nI (imF_t c_21))) ls (lv_sub hl [2, 3, 4, 1, 0] rfl)
  exact loop_5 n 0 0 (by omega) rfl ls (lv_sub hl [2, 3, 4, 1, 0] rfl)
theorem eX0_entry : yX0_entry.cls = RX0 ∧ yX0_entry.cls ≠ "java/lang/invoke/MethodHandle" ∧ yX0_entry.cls ≠ "java/lang/invoke/VarHandle" ∧ (parseMethodDescriptor yX0_entry.desc).map (fun d => d.parameters.length) = some 2 := by decide +kernel
set_option maxHeartbeats 4000000 in
set_option maxRecDepth 100000 in
theorem kX0_entry (hP : va_P D vwCl (gW cI cG h a g f ra (nI n) (nI id) (nI ct) fc ad fl R) H) (hc : ct ≤ 12) {lv x : Nat} (hlv : lv < 7) (hx8 : x < 8) : pI l yX0_entry wsX0_entry ({ frames := 1, cells := 0, slots := 0, locals := 21 } : Room) [.ref h, .int (nI (lv)), .int (nI (x))] D (gT cI cG cZ) H (R ct (lv * 8 + x)) := by
  refine pI_ofW (cc := cX0_entry) (maxL := 3) (ret := (some .int)) (by decide) rfl (Or.inl rfl) (Nat.le_of_ble_eq_true rfl) ?_
  intro p e s m args below meth c QQ hx hb hml hown hts hK hret ls hl
  have hl : lv_has ls 3 [(0, .ref h), (1, .int (nI (lv))), (2, .int (nI (x)))] := hl
  have hown : s.vm.findClass RX0 = some m.cls := hown
  have hin0 : ∀ w ∈ wsX00, w ∈ wsX0_entry := fun w h => List.mem_cons_of_mem _ (List.mem_append_right _ h)
  have hl_chains : (Cond.fieldLink RX0 15 "PermGroup" "chains" "[[I").before args s = true := hts _ (by decide +kernel)
  have hl_count : (Cond.fieldLink RX0 33 "PermGroup" "count" "I").before args s = true := hts _ (by decide +kernel)
  refine lv_aload_n hx hb dX0_entry_0 rfl (lv_at hl 0 rfl) ?_
  refine va_get (D := D) (ci := 0) (v := .ref g) (C := RX0) (T := TX0) (N := 7) hx hb hts hin0 hown hK hP 0 rfl rfl 4 (by decide) hl_chains (fun _ h9 => h9) rfl dX0_entry_1 ?_
  refine lv_aload_n hx hb dX0_entry_4 rfl (lv_at hl 0 rfl) ?_
  refine va_get (D := D) (ci := 0) (v := .int (nI (ct))) (C := RX0) (T := TX0) (N := 7) hx hb hts hin0 hown hK hP 0 rfl rfl 2 (by decide) hl_count (fun _ h9 => h9) rfl dX0_entry_5 ?_
  refine ga_row hx hb hK hP (by omega) dX0_entry_8 ?_
  refine lv_iload_n hx hb dX0_entry_9 rfl (lv_at hl 1 rfl) ?_
  refine lv_iload_n hx hb dX0_entry_10 rfl (lv_at hl 2 rfl) ?_
  refine pu_S (As := [.int (nI (lv)), .int (nI (x))]) (rest := [.ref (ra ct)]) ⟨hx, hb, hml, hown, hts⟩ (kX0_slotOf (x := lv) (z := x)) (va_cwS 2 hts gX0_entry_X0_slotOf rfl rfl rfl eX0_slotOf ⟨by decide, by decide⟩) hK rfl hl.1 rfl (Nat.le_of_ble_eq_true rfl) dX0_entry_11 ⟨Nat.zero_le _, Nat.zero_le _⟩ ?_
  refine va_iald hx hb hK hP (ct + 4) 0 (gW_row (by omega)) rfl (vp_in_nI (by omega) (by omega)) dX0_entry_14 ?_
  refine pu_tp (nb_clamp (f := (R ct)) (by omega)) ?_
  exact hret _ _ _ (rfl) dX0_entry_15
theorem eX0_fixersOfFirst : yX0_fixersOfFirst.cls = RX0 ∧ yX0_fixersOfFirst.cls ≠ "java/lang/invoke/MethodHandle" ∧ yX0_fixersOfFirst.cls ≠ "java/lang/invoke/VarHandle" ∧ (parseMethodDescriptor yX0_fixersOfFirst.desc).map (fun d => d.parameters.length) = some 1 := by decide +kernel
set_option maxHeartbeats 4000000 in
set_option maxRecDepth 100000 in
theorem kX0_fixersOfFirst (hP : va_P D vwCl (gW cI cG h a g f ra (nI n) (nI id) (nI ct) fc ad fl R) H) (hn : n ≤ 7) (hc : ct ≤ 12) {k : Nat} (hk : k ≤ n) : pI l yX0_fixersOfFirst wsX0_fixersOfFirst ({ frames := 2, cells := 0, slots := 0, locals := 43 } : Room) [.ref h, .int (nI (k))] D (gT cI cG cZ) H (nI (fx (R ct) n k)) := by
  refine pI_ofW (cc := cX0_fixersOfFirst) (maxL := 6) (ret := (some .int)) (by decide) rfl (Or.inl rfl) (Nat.le_of_ble_eq_true rfl) ?_
  intro p e s m args below meth c QQ hx hb hml hown hts hK hret ls hl
  have hl : lv_has ls 6 [(0, .ref h), (1, .int (nI (k)))] := hl
  have hown : s.vm.findClass RX0 = some m.cls := hown
  have hin0 : ∀ w ∈ wsX00, w ∈ wsX0_fixersOfFirst := fun w h => List.mem_cons_of_mem _ (List.mem_append_right _ h)
  have hl_n : (Cond.fieldLink RX0 25 "PermGroup" "n" "I").before args s = true := hts _ (by decide +kernel)
  refine lv_iconst (v := nI (1)) hx hb dX0_fixersOfFirst_0 (by decide) ?_
  refine lv_istore_n (lv' := [(2, .int (nI (1))), (0, .ref h), (1, .int (nI (k)))]) hx hb dX0_fixersOfFirst_1 rfl hl (by decide) rfl (fun ls hl => ?_)
  refine lv_iload_n hx hb dX0_fixersOfFirst_2 rfl (lv_at hl 2 rfl) ?_
  refine lv_istore_n (lv' := [(3, .int (nI (k))), (2, .int (nI (1))), (0, .ref h), (1, .int (nI (k)))]) hx hb dX0_fixersOfFirst_3 rfl hl (by decide) rfl (fun ls hl => ?_)
  have loop_4 : ∀ (j lv x : Nat), (lv + j = n) → (nI (fx (R ct) n k) = nI (fxF (R ct) n j lv x)) → ∀ (ls : Array Slot), lv_has ls 6 [(0, .ref h), (2, .int (nI (x))), (3, .int (nI (lv)))] → W p l e ({ frames := 2, cells := 0, slots := 0, locals := 43 } : Room) s m args below meth c H [] 0 0 QQ (F0 m 4 ls []) := by
    intro j
    induction j with
    | zero =>
      intro lv x hj hr ls hl
      refine lv_iload_n hx hb dX0_fixersOfFirst_4 rfl (lv_at hl 2 rfl) ?_
      refine lv_aload_n hx hb dX0_fixersOfFirst_5 rfl (lv_at hl 0 rfl) ?_
      refine va_get (D := D) (ci := 0) (v := .int (nI (n))) (C := RX0) (T := TX0) (N := 7) hx hb hts hin0 hown hK hP 0 rfl rfl 0 (by decide) hl_n (fun _ h9 => h9) rfl dX0_fixersOfFirst_6 ?_
      refine lv_icmp_ge (tgt := 58) hx hb dX0_fixersOfFirst_9 (by decide) (fun c_9 => ?_) (fun c_9 => ?_)
      ·
        have c_9 := (nI_leI (by omega) (by omega)).mp c_9
        refine lv_iload_n hx hb dX0_fixersOfFirst_58 rfl (lv_at hl 1 rfl) ?_
        exact hret _ _ _ (hr.symm) dX0_fixersOfFirst_59
      ·
        have c_9 : ¬ _ := fun h9 => c_9 ((nI_leI (by omega) (by omega)).mpr h9)
        exfalso; omega
    | succ j ih_4 =>
      intro lv x hj hr ls hl
      refine lv_iload_n hx hb dX0_fixersOfFirst_4 rfl (lv_at hl 2 rfl) ?_
      refine lv_aload_n hx hb dX0_fixersOfFirst_5 rfl (lv_at hl 0 rfl) ?_
      refine va_get (D := D) (ci := 0) (v := .int (nI (n))) (C := RX0) (T := TX0) (N := 7) hx hb hts hin0 hown hK hP 0 rfl rfl 0 (by decide) hl_n (fun _ h9 => h9) rfl dX0_fixersOfFirst_6 ?_
      refine lv_icmp_ge (tgt := 58) hx hb dX0_fixersOfFirst_9 (by decide) (fun c_9 => ?_) (fun c_9 => ?_)
      ·
        have c_9 := (nI_leI (by omega) (by omega)).mp c_9
        exfalso; omega
      ·
        have c_9 : ¬ _ := fun h9 => c_9 ((nI_leI (by omega) (by omega)).mpr h9)
        refine lv_iconst (v := nI (0)) hx hb dX0_fixersOfFirst_12 (by decide) ?_
        refine lv_istore (lv' := [(4, .int (nI (0))), (0, .ref h), (2, .int (nI (x))), (3, .int (nI (lv)))]) hx hb dX0_fixersOfFirst_13 hl (by decide) rfl (fun ls hl => ?_)
        refine lv_iload_n hx hb dX0_fixersOfFirst_15 rfl (lv_at hl 3 rfl) ?_
        refine lv_istore (lv' := [(5, .int (nI (lv))), (4, .int (nI (0))), (0, .ref h), (2, .int (nI (x))), (3, .int (nI (lv)))]) hx hb dX0_fixersOfFirst_16 hl (by decide) rfl (fun ls hl => ?_)
        have loop_18 : ∀ (j2 y z : Nat), (y + j2 = n) → (cnF (R ct) lv (n - lv) lv 0 = cnF (R ct) lv j2 y z) → ∀ (ls : Array Slot), lv_has ls 6 [(0, .ref h), (2, .int (nI (x))), (3, .int (nI (lv))), (4, .int (nI (z))), (5, .int (nI (y)))] → W p l e ({ frames := 2, cells := 0, slots := 0, locals := 43 } : Room) s m args below meth c H [] 0 0 QQ (F0 m 18 ls []) := by
          intro j2
          induction j2 with
          | zero =>
            intro y z hj2 hr2 ls hl
            refine lv_iload hx hb dX0_fixersOfFirst_18 (lv_at hl 4 rfl) ?_
            refine lv_aload_n hx hb dX0_fixersOfFirst_20 rfl (lv_at hl 0 rfl) ?_
            refine va_get (D := D) (ci := 0) (v := .int (nI (n))) (C := RX0) (T := TX0) (N := 7) hx hb hts hin0 hown hK hP 0 rfl rfl 0 (by decide) hl_n (fun _ h9 => h9) rfl dX0_fixersOfFirst_21 ?_
            refine lv_icmp_ge (tgt := 47) hx hb dX0_fixersOfFirst_24 (by decide) (fun c_24 => ?_) (fun c_24 => ?_)
            ·
              have c_24 := (nI_leI (by omega) (by omega)).mp c_24
              refine lv_iload_n hx hb dX0_fixersOfFirst_47 rfl (lv_at hl 1 rfl) ?_
              refine lv_iload hx hb dX0_fixersOfFirst_48 (lv_at hl 3 rfl) ?_
              refine lv_imul hx hb dX0_fixersOfFirst_50 ?_
              refine pu_tp (pk_mul _ _) ?_
              refine lv_istore_n (lv' := [(2, .int (nI (x * z))), (0, .ref h), (3, .int (nI (lv))), (4, .int (nI (z))), (5, .int (nI (y)))]) hx hb dX0_fixersOfFirst_51 rfl hl (by decide) rfl (fun ls hl => ?_)
              refine lv_iinc (v := nI (lv + 1)) (lv' := [(3, .int (nI (lv + 1))), (2, .int (nI (x * z))), (0, .ref h), (4, .int (nI (z))), (5, .int (nI (y)))]) hx hb dX0_fixersOfFirst_52 hl (k := 2) rfl (nI_1 _) (by decide) rfl (fun ls hl => ?_)
              refine lv_goto (tgt := 4) hx hb dX0_fixersOfFirst_55 (by decide) ?_
              exact ih_4 (lv + 1) (x * z) (by omega) (by have hz : z = cnF (R ct) lv (n - lv) lv 0 := hr2.symm; rw [hz]; exact hr) ls (lv_sub hl [2, 1, 0] rfl)
            ·
              have c_24 : ¬ _ := fun h9 => c_24 ((nI_leI (by omega) (by omega)).mpr h9)
              exfalso; omega
          | succ j2 ih_18 =>
            intro y z hj2 hr2 ls hl
            refine lv_iload hx hb dX0_fixersOfFirst_18 (lv_at hl 4 rfl) ?_
            refine lv_aload_n hx hb dX0_fixersOfFirst_20 rfl (lv_at hl 0 rfl) ?_
            refine va_get (D := D) (ci := 0) (v := .int (nI (n))) (C := RX0) (T := TX0) (N := 7) hx hb hts hin0 hown hK hP 0 rfl rfl 0 (by decide) hl_n (fun _ h9 => h9) rfl dX0_fixersOfFirst_21 ?_
            refine lv_icmp_ge (tgt := 47) hx hb dX0_fixersOfFirst_24 (by decide) (fun c_24 => ?_) (fun c_24 => ?_)
            ·
              have c_24 := (nI_leI (by omega) (by omega)).mp c_24
              exfalso; omega
            ·
              have c_24 : ¬ _ := fun h9 => c_24 ((nI_leI (by omega) (by omega)).mpr h9)
              refine lv_aload_n hx hb dX0_fixersOfFirst_27 rfl (lv_at hl 0 rfl) ?_
              refine lv_iload_n hx hb dX0_fixersOfFirst_28 rfl (lv_at hl 2 rfl) ?_
              refine lv_iload hx hb dX0_fixersOfFirst_29 (lv_at hl 4 rfl) ?_
              refine pu_V (As := [.int (nI (lv)), .int (nI (y))]) (rest := []) (b := h) ⟨hx, hb, hml, hown, hts⟩ (kX0_entry hP hc (lv := lv) (x := y) (by omega) (by omega)) (cwV 2 hts gX0_fixersOfFirst_X0_entry rfl rfl rfl eX0_entry ⟨by decide, by decide⟩) (va_recv hK hP (ci := 0) (q0 := 0) rfl rfl) hK rfl hl.1 rfl (Nat.le_of_ble_eq_true rfl) dX0_fixersOfFirst_31 ⟨Nat.zero_le _, Nat.zero_le _⟩ ?_
              refine lv_iconst (v := -1) hx hb dX0_fixersOfFirst_34 (by decide) ?_
              refine lv_icmp_eq (tgt := 41) hx hb dX0_fixersOfFirst_35 (by decide) (fun c_35 => ?_) (fun c_35 => ?_)
              ·
                refine lv_iinc (v := nI (y + 1)) (lv' := [(5, .int (nI (y + 1))), (0, .ref h), (2, .int (nI (x))), (3, .int (nI (lv))), (4, .int (nI (z)))]) hx hb dX0_fixersOfFirst_41 hl (k := 4) rfl (nI_1 _) (by decide) rfl (fun ls hl => ?_)
                refine lv_goto (tgt := 18) hx hb dX0_fixersOfFirst_44 (by decide) ?_
                exact ih_18 (y + 1) z (by omega) (hr2.trans (cnF_n c_35)) ls (lv_sub hl [1, 2, 3, 4, 0] rfl)
              ·
                refine lv_iinc (v := nI (z + 1)) (lv' := [(4, .int (nI (z + 1))), (0, .ref h), (2, .int (nI (x))), (3, .int (nI (lv))), (5, .int (nI (y)))]) hx hb dX0_fixersOfFirst_38 hl (k := 3) rfl (nI_1 _) (by decide) rfl (fun ls hl => ?_)
                refine lv_iinc (v := nI (y + 1)) (lv' := [(5, .int (nI (y + 1))), (4, .int (nI (z + 1))), (0, .ref h), (2, .int (nI (x))), (3, .int (nI (lv)))]) hx hb dX0_fixersOfFirst_41 hl (k := 4) rfl (nI_1 _) (by decide) rfl (fun ls hl => ?_)
                refine lv_goto (tgt := 18) hx hb dX0_fixersOfFirst_44 (by decide) ?_
                exact ih_18 (y + 1) (z + 1) (by omega) (hr2.trans (cnF_y c_35)) ls (lv_sub hl [2, 3, 4, 1, 0] rfl)
        exact loop_18 (n - lv) lv 0 (by omega) rfl ls (lv_sub hl [2, 3, 4, 1, 0] rfl)
  exact loop_4 (n - k) k 1 (by omega) rfl ls (lv_sub hl [2, 1, 0] rfl)
theorem eX0_residue : yX0_residue.cls = RX0 ∧ yX0_residue.cls ≠ "java/lang/invoke/MethodHandle" ∧ yX0_residue.cls ≠ "java/lang/invoke/VarHandle" ∧ (parseMethodDescriptor yX0_residue.desc).map (fun d => d.parameters.length) = some 1 := by decide +kernel
set_option maxHeartbeats 4000000 in
set_option maxRecDepth 100000 in
theorem kX0_residue (hP : va_P D vwCl (gW cI cG h a g f ra (nI n) (nI id) (nI ct) fc ad fl R) H) (hn : n ≤ 7) (hc : ct ≤ 12) {P : Nat} (hp : P < 2 ^ 32) : pI l yX0_residue wsX0_residue ({ frames := 2, cells := 0, slots := 0, locals := 45 } : Room) [.ref h, .int (nI (P))] D (gT cI cG cZ) H (nI (rs (R ct) n P)) := by
  refine pI_ofW (cc := cX0_residue) (maxL := 6) (ret := (some .int)) (by decide) rfl (Or.inl rfl) (Nat.le_of_ble_eq_true rfl) ?_
  intro p e s m args below meth c QQ hx hb hml hown hts hK hret ls hl
  have hl : lv_has ls 6 [(0, .ref h), (1, .int (nI (P)))] := hl
  have hown : s.vm.findClass RX0 = some m.cls := hown
  have hin0 : ∀ w ∈ wsX00, w ∈ wsX0_residue := fun w h => List.mem_cons_of_mem _ (List.mem_append_right _ h)
  have hl_n : (Cond.fieldLink RX0 25 "PermGroup" "n" "I").before args s = true := hts _ (by decide +kernel)
  refine lv_iload_n hx hb dX0_residue_0 rfl (lv_at hl 1 rfl) ?_
  refine lv_istore_n (lv' := [(2, .int (nI (P))), (0, .ref h), (1, .int (nI (P)))]) hx hb dX0_residue_1 rfl hl (by decide) rfl (fun ls hl => ?_)
  refine lv_iconst (v := nI (0)) hx hb dX0_residue_2 (by decide) ?_
  refine lv_istore_n (lv' := [(3, .int (nI (0))), (2, .int (nI (P))), (0, .ref h), (1, .int (nI (P)))]) hx hb dX0_residue_3 rfl hl (by decide) rfl (fun ls hl => ?_)
  have loop_4 : ∀ (k lv r : Nat), (lv + k = n) → (nI (rs (R ct) n P) = nI (rsF (R ct) n k lv r)) → (r < 2 ^ 32) → ∀ (ls : Array Slot), lv_has ls 6 [(0, .ref h), (2, .int (nI (r))), (3, .int (nI (lv)))] → W p l e ({ frames := 2, cells := 0, slots := 0, locals := 45 } : Room) s m args below meth c H [] 0 0 QQ (F0 m 4 ls []) := by
    intro k
    induction k with
    | zero =>
      intro lv r hk hr hrl ls hl
      refine lv_iload_n hx hb dX0_residue_4 rfl (lv_at hl 2 rfl) ?_
      refine lv_aload_n hx hb dX0_residue_5 rfl (lv_at hl 0 rfl) ?_
      refine va_get (D := D) (ci := 0) (v := .int (nI (n))) (C := RX0) (T := TX0) (N := 7) hx hb hts hin0 hown hK hP 0 rfl rfl 0 (by decide) hl_n (fun _ h9 => h9) rfl dX0_residue_6 ?_
      refine lv_icmp_ge (tgt := 60) hx hb dX0_residue_9 (by decide) (fun c_9 => ?_) (fun c_9 => ?_)
      ·
        have c_9 := (nI_leI (by omega) (by omega)).mp c_9
        refine lv_iload_n hx hb dX0_residue_60 rfl (lv_at hl 1 rfl) ?_
        exact hret _ _ _ (hr.symm) dX0_residue_61
      ·
        have c_9 : ¬ _ := fun h9 => c_9 ((nI_leI (by omega) (by omega)).mpr h9)
        exfalso; omega
    | succ k ih_4 =>
      intro lv r hk hr hrl ls hl
      refine lv_iload_n hx hb dX0_residue_4 rfl (lv_at hl 2 rfl) ?_
      refine lv_aload_n hx hb dX0_residue_5 rfl (lv_at hl 0 rfl) ?_
      refine va_get (D := D) (ci := 0) (v := .int (nI (n))) (C := RX0) (T := TX0) (N := 7) hx hb hts hin0 hown hK hP 0 rfl rfl 0 (by decide) hl_n (fun _ h9 => h9) rfl dX0_residue_6 ?_
      refine lv_icmp_ge (tgt := 60) hx hb dX0_residue_9 (by decide) (fun c_9 => ?_) (fun c_9 => ?_)
      ·
        have c_9 := (nI_leI (by omega) (by omega)).mp c_9
        exfalso; omega
      ·
        have c_9 : ¬ _ := fun h9 => c_9 ((nI_leI (by omega) (by omega)).mpr h9)
        refine lv_iload_n hx hb dX0_residue_12 rfl (lv_at hl 1 rfl) ?_
        refine lv_iload_n hx hb dX0_residue_13 rfl (lv_at hl 2 rfl) ?_
        refine pu_S (As := [.int (nI (r)), .int (nI (lv))]) (rest := []) ⟨hx, hb, hml, hown, hts⟩ (kX0_image (P := r) (i := lv) (by omega) (by omega)) (va_cwS 2 hts gX0_residue_X0_image rfl rfl rfl eX0_image ⟨by decide, by decide⟩) hK rfl hl.1 rfl (Nat.le_of_ble_eq_true rfl) dX0_residue_14 ⟨Nat.zero_le _, Nat.zero_le _⟩ ?_
        refine lv_istore (lv' := [(4, .int (nI (im (r) (lv)))), (0, .ref h), (2, .int (nI (r))), (3, .int (nI (lv)))]) hx hb dX0_residue_17 hl (by decide) rfl (fun ls hl => ?_)
        refine lv_iload hx hb dX0_residue_19 (lv_at hl 0 rfl) ?_
        refine lv_iload_n hx hb dX0_residue_21 rfl (lv_at hl 3 rfl) ?_
        refine lv_icmp_eq (tgt := 54) hx hb dX0_residue_22 (by decide) (fun c_22 => ?_) (fun c_22 => ?_)
        ·
          have c_22 := (nb_eqI (Nat.lt_trans (im_lt _ _) (by decide)) (by omega)).mp c_22
          refine lv_iinc (v := nI (lv + 1)) (lv' := [(3, .int (nI (lv + 1))), (4, .int (nI (im (r) (lv)))), (0, .ref h), (2, .int (nI (r)))]) hx hb dX0_residue_54 hl (k := 3) rfl (nI_1 _) (by decide) rfl (fun ls hl => ?_)
          refine lv_goto (tgt := 4) hx hb dX0_residue_57 (by decide) ?_
          exact ih_4 (lv + 1) r (by omega) (hr.trans (congrArg nI (rsF_eq c_22))) hrl ls (lv_sub hl [2, 3, 0] rfl)
        ·
          have c_22 : ¬ _ := fun h9 => c_22 ((nb_eqI (Nat.lt_trans (im_lt _ _) (by decide)) (by omega)).mpr h9)
          refine lv_aload_n hx hb dX0_residue_25 rfl (lv_at hl 1 rfl) ?_
          refine lv_iload_n hx hb dX0_residue_26 rfl (lv_at hl 3 rfl) ?_
          refine lv_iload hx hb dX0_residue_27 (lv_at hl 0 rfl) ?_
          refine pu_V (As := [.int (nI (lv)), .int (nI (im (r) (lv)))]) (rest := []) (b := h) ⟨hx, hb, hml, hown, hts⟩ (kX0_entry hP hc (lv := lv) (x := im r lv) (by omega) (im_lt _ _)) (cwV 2 hts gX0_residue_X0_entry rfl rfl rfl eX0_entry ⟨by decide, by decide⟩) (va_recv hK hP (ci := 0) (q0 := 0) rfl rfl) hK rfl hl.1 rfl (Nat.le_of_ble_eq_true rfl) dX0_residue_29 ⟨Nat.zero_le _, Nat.zero_le _⟩ ?_
          refine lv_istore (lv' := [(5, .int (R ct (lv * 8 + im r lv))), (4, .int (nI (im (r) (lv)))), (0, .ref h), (2, .int (nI (r))), (3, .int (nI (lv)))]) hx hb dX0_residue_32 hl (by decide) rfl (fun ls hl => ?_)
          refine lv_iload hx hb dX0_residue_34 (lv_at hl 0 rfl) ?_
          refine lv_iconst (v := -1) hx hb dX0_residue_36 (by decide) ?_
          refine lv_icmp_ne (tgt := 42) hx hb dX0_residue_37 (by decide) (fun c_37 => ?_) (fun c_37 => ?_)
          ·
            refine lv_aload_n hx hb dX0_residue_42 rfl (lv_at hl 2 rfl) ?_
            refine lv_iload_n hx hb dX0_residue_43 rfl (lv_at hl 3 rfl) ?_
            refine lv_aload_n hx hb dX0_residue_44 rfl (lv_at hl 2 rfl) ?_
            refine lv_iload hx hb dX0_residue_45 (lv_at hl 0 rfl) ?_
            refine pu_tp (z := nI (tn (R ct (lv * 8 + im r lv)))) ((nI_tn _).symm) ?_
            refine pu_V (As := [.int (nI (tn (R ct (lv * 8 + im r lv))))]) (rest := [.int (nI (r)), .ref h]) (b := h) ⟨hx, hb, hml, hown, hts⟩ (kX0_invert hP hn (P := tn (R ct (lv * 8 + im r lv))) (tn_lt _)) (cwV 1 hts gX0_residue_X0_invert rfl rfl rfl eX0_invert ⟨by decide, by decide⟩) (va_recv hK hP (ci := 0) (q0 := 0) rfl rfl) hK rfl hl.1 rfl (Nat.le_of_ble_eq_true rfl) dX0_residue_47 ⟨Nat.zero_le _, Nat.zero_le _⟩ ?_
            refine pu_V (As := [.int (nI (r)), .int (nI (bk n (tn (R ct (lv * 8 + im r lv)))))]) (rest := []) (b := h) ⟨hx, hb, hml, hown, hts⟩ (kX0_compose hP hn (P := r) (Q := bk n (tn (R ct (lv * 8 + im r lv)))) (by omega) (Nat.lt_trans (bk_lt hn _) (by decide))) (cwV 2 hts gX0_residue_X0_compose rfl rfl rfl eX0_compose ⟨by decide, by decide⟩) (va_recv hK hP (ci := 0) (q0 := 0) rfl rfl) hK rfl hl.1 rfl (Nat.le_of_ble_eq_true rfl) dX0_residue_50 ⟨Nat.zero_le _, Nat.zero_le _⟩ ?_
            refine lv_istore_n (lv' := [(2, .int (nI (tm n (r) (bk n (tn (R ct (lv * 8 + im r lv))))))), (5, .int (R ct (lv * 8 + im r lv))), (4, .int (nI (im (r) (lv)))), (0, .ref h), (3, .int (nI (lv)))]) hx hb dX0_residue_53 rfl hl (by decide) rfl (fun ls hl => ?_)
            refine lv_iinc (v := nI (lv + 1)) (lv' := [(3, .int (nI (lv + 1))), (2, .int (nI (tm n (r) (bk n (tn (R ct (lv * 8 + im r lv))))))), (5, .int (R ct (lv * 8 + im r lv))), (4, .int (nI (im (r) (lv)))), (0, .ref h)]) hx hb dX0_residue_54 hl (k := 4) rfl (nI_1 _) (by decide) rfl (fun ls hl => ?_)
            refine lv_goto (tgt := 4) hx hb dX0_residue_57 (by decide) ?_
            exact ih_4 (lv + 1) (tm n r (bk n (tn (R ct (lv * 8 + im r lv))))) (by omega) (hr.trans (congrArg nI (rsF_go c_22 c_37))) (Nat.lt_trans (tm_lt hn _ _) (by decide)) ls (lv_sub hl [4, 1, 0] rfl)
          ·
            refine lv_iload_n hx hb dX0_residue_40 rfl (lv_at hl 3 rfl) ?_
            exact hret _ _ _ ((hr.trans (congrArg nI (rsF_no c_22 c_37))).symm) dX0_residue_41
  exact loop_4 n 0 P (by omega) rfl hp ls (lv_sub hl [2, 1, 0] rfl)
theorem eX0_isElement : yX0_isElement.cls = RX0 ∧ yX0_isElement.cls ≠ "java/lang/invoke/MethodHandle" ∧ yX0_isElement.cls ≠ "java/lang/invoke/VarHandle" ∧ (parseMethodDescriptor yX0_isElement.desc).map (fun d => d.parameters.length) = some 1 := by decide +kernel
set_option maxHeartbeats 4000000 in
set_option maxRecDepth 100000 in
theorem kX0_isElement (hP : va_P D vwCl (gW cI cG h a g f ra (nI n) (nI id) (nI ct) fc ad fl R) H) (hn : n ≤ 7) (hc : ct ≤ 12) (hid : id < 2 ^ 32) {P : Nat} (hp : P < 2 ^ 32) : pI l yX0_isElement wsX0_isElement ({ frames := 3, cells := 0, slots := 0, locals := 70 } : Room) [.ref h, .int (nI (P))] D (gT cI cG cZ) H (b01 (decide (rs (R ct) n P = id))) := by
  refine pI_ofW (cc := cX0_isElement) (maxL := 2) (ret := (some .boolean)) (by decide) rfl (Or.inr ⟨rfl, b01_or _⟩) (Nat.le_of_ble_eq_true rfl) ?_
  intro p e s m args below meth c QQ hx hb hml hown hts hK hret ls hl
  have hl : lv_has ls 2 [(0, .ref h), (1, .int (nI (P)))] := hl
  have hown : s.vm.findClass RX0 = some m.cls := hown
  have hin0 : ∀ w ∈ wsX00, w ∈ wsX0_isElement := fun w h => List.mem_cons_of_mem _ (List.mem_append_right _ h)
  have hl_identity : (Cond.fieldLink RX0 66 "PermGroup" "identity" "I").before args s = true := hts _ (by decide +kernel)
  refine lv_aload_n hx hb dX0_isElement_0 rfl (lv_at hl 0 rfl) ?_
  refine lv_iload_n hx hb dX0_isElement_1 rfl (lv_at hl 1 rfl) ?_
  refine pu_V (As := [.int (nI (P))]) (rest := []) (b := h) ⟨hx, hb, hml, hown, hts⟩ (kX0_residue hP hn hc hp) (cwV 1 hts gX0_isElement_X0_residue rfl rfl rfl eX0_residue ⟨by decide, by decide⟩) (va_recv hK hP (ci := 0) (q0 := 0) rfl rfl) hK rfl hl.1 rfl (Nat.le_of_ble_eq_true rfl) dX0_isElement_2 ⟨Nat.zero_le _, Nat.zero_le _⟩ ?_
  refine lv_aload_n hx hb dX0_isElement_5 rfl (lv_at hl 0 rfl) ?_
  refine va_get (D := D) (ci := 0) (v := .int (nI (id))) (C := RX0) (T := TX0) (N := 7) hx hb hts hin0 hown hK hP 0 rfl rfl 1 (by decide) hl_identity (fun _ h9 => h9) rfl dX0_isElement_6 ?_
  refine lv_icmp_ne (tgt := 16) hx hb dX0_isElement_9 (by decide) (fun c_9 => ?_) (fun c_9 => ?_)
  ·
    have c_9 : ¬ _ := fun h9 => c_9 ((nb_eqI (show rs (R ct) n P < 2 ^ 32 from rsF_lt _ hn _ _ _ hp) hid).mpr h9)
    refine lv_iconst (v := nI (0)) hx hb dX0_isElement_16 (by decide) ?_
    exact hret _ _ _ (by rw [decide_eq_false c_9]; rfl) dX0_isElement_17
  ·
    have c_9 := (nb_eqI (show rs (R ct) n P < 2 ^ 32 from rsF_lt _ hn _ _ _ hp) hid).mp c_9
    refine lv_iconst (v := nI (1)) hx hb dX0_isElement_12 (by decide) ?_
    refine lv_goto (tgt := 17) hx hb dX0_isElement_13 (by decide) ?_
    exact hret _ _ _ (by rw [decide_eq_true c_9]; rfl) dX0_isElement_17
theorem eX0_entriesBelow : yX0_entriesBelow.cls = RX0 ∧ yX0_entriesBelow.cls ≠ "java/lang/invoke/MethodHandle" ∧ yX0_entriesBelow.cls ≠ "java/lang/invoke/VarHandle" ∧ (parseMethodDescriptor yX0_entriesBelow.desc).map (fun d => d.parameters.length) = some 3 := by decide +kernel
set_option maxHeartbeats 4000000 in
set_option maxRecDepth 100000 in
theorem kX0_entriesBelow (hP : va_P D vwCl (gW cI cG h a g f ra (nI n) (nI id) (nI ct) fc ad fl R) H) (hn : n ≤ 7) (hc : ct ≤ 12) {lv fo lim : Nat} (hlv : lv < n) (hfo : fo < 2 ^ 32) (hlim : lim < 2 ^ 31) : pI l yX0_entriesBelow wsX0_entriesBelow ({ frames := 2, cells := 0, slots := 0, locals := 43 } : Room) [.ref h, .int (nI (lv)), .int (nI (fo)), .int (nI (lim))] D (gT cI cG cZ) H (nI (elF (R ct) lv fo lim (n - lv) lv 0)) := by
  refine pI_ofW (cc := cX0_entriesBelow) (maxL := 6) (ret := (some .int)) (by decide) rfl (Or.inl rfl) (Nat.le_of_ble_eq_true rfl) ?_
  intro p e s m args below meth c QQ hx hb hml hown hts hK hret ls hl
  have hl : lv_has ls 6 [(0, .ref h), (1, .int (nI (lv))), (2, .int (nI (fo))), (3, .int (nI (lim)))] := hl
  have hown : s.vm.findClass RX0 = some m.cls := hown
  have hin0 : ∀ w ∈ wsX00, w ∈ wsX0_entriesBelow := fun w h => List.mem_cons_of_mem _ (List.mem_append_right _ h)
  have hl_n : (Cond.fieldLink RX0 25 "PermGroup" "n" "I").before args s = true := hts _ (by decide +kernel)
  refine lv_iconst (v := nI (0)) hx hb dX0_entriesBelow_0 (by decide) ?_
  refine lv_istore (lv' := [(4, .int (nI (0))), (0, .ref h), (1, .int (nI (lv))), (2, .int (nI (fo))), (3, .int (nI (lim)))]) hx hb dX0_entriesBelow_1 hl (by decide) rfl (fun ls hl => ?_)
  refine lv_iload_n hx hb dX0_entriesBelow_3 rfl (lv_at hl 2 rfl) ?_
  refine lv_istore (lv' := [(5, .int (nI (lv))), (4, .int (nI (0))), (0, .ref h), (1, .int (nI (lv))), (2, .int (nI (fo))), (3, .int (nI (lim)))]) hx hb dX0_entriesBelow_4 hl (by decide) rfl (fun ls hl => ?_)
  have loop_6 : ∀ (j y z : Nat), (y + j = n) → (nI (elF (R ct) lv fo lim (n - lv) lv 0) = nI (elF (R ct) lv fo lim j y z)) → ∀ (ls : Array Slot), lv_has ls 6 [(0, .ref h), (1, .int (nI (lv))), (2, .int (nI (fo))), (3, .int (nI (lim))), (4, .int (nI (z))), (5, .int (nI (y)))] → W p l e ({ frames := 2, cells := 0, slots := 0, locals := 43 } : Room) s m args below meth c H [] 0 0 QQ (F0 m 6 ls []) := by
    intro j
    induction j with
    | zero =>
      intro y z hj hr ls hl
      refine lv_iload hx hb dX0_entriesBelow_6 (lv_at hl 5 rfl) ?_
      refine lv_aload_n hx hb dX0_entriesBelow_8 rfl (lv_at hl 0 rfl) ?_
      refine va_get (D := D) (ci := 0) (v := .int (nI (n))) (C := RX0) (T := TX0) (N := 7) hx hb hts hin0 hown hK hP 0 rfl rfl 0 (by decide) hl_n (fun _ h9 => h9) rfl dX0_entriesBelow_9 ?_
      refine lv_icmp_ge (tgt := 45) hx hb dX0_entriesBelow_12 (by decide) (fun c_12 => ?_) (fun c_12 => ?_)
      ·
        have c_12 := (nI_leI (by omega) (by omega)).mp c_12
        refine lv_iload hx hb dX0_entriesBelow_45 (lv_at hl 4 rfl) ?_
        exact hret _ _ _ (hr.symm) dX0_entriesBelow_47
      ·
        have c_12 : ¬ _ := fun h9 => c_12 ((nI_leI (by omega) (by omega)).mpr h9)
        exfalso; omega
    | succ j ih_6 =>
      intro y z hj hr ls hl
      refine lv_iload hx hb dX0_entriesBelow_6 (lv_at hl 5 rfl) ?_
      refine lv_aload_n hx hb dX0_entriesBelow_8 rfl (lv_at hl 0 rfl) ?_
      refine va_get (D := D) (ci := 0) (v := .int (nI (n))) (C := RX0) (T := TX0) (N := 7) hx hb hts hin0 hown hK hP 0 rfl rfl 0 (by decide) hl_n (fun _ h9 => h9) rfl dX0_entriesBelow_9 ?_
      refine lv_icmp_ge (tgt := 45) hx hb dX0_entriesBelow_12 (by decide) (fun c_12 => ?_) (fun c_12 => ?_)
      ·
        have c_12 := (nI_leI (by omega) (by omega)).mp c_12
        exfalso; omega
      ·
        have c_12 : ¬ _ := fun h9 => c_12 ((nI_leI (by omega) (by omega)).mpr h9)
        refine lv_aload_n hx hb dX0_entriesBelow_15 rfl (lv_at hl 0 rfl) ?_
        refine lv_iload_n hx hb dX0_entriesBelow_16 rfl (lv_at hl 1 rfl) ?_
        refine lv_iload hx hb dX0_entriesBelow_17 (lv_at hl 5 rfl) ?_
        refine pu_V (As := [.int (nI (lv)), .int (nI (y))]) (rest := []) (b := h) ⟨hx, hb, hml, hown, hts⟩ (kX0_entry hP hc (lv := lv) (x := y) (by omega) (by omega)) (cwV 2 hts gX0_entriesBelow_X0_entry rfl rfl rfl eX0_entry ⟨by decide, by decide⟩) (va_recv hK hP (ci := 0) (q0 := 0) rfl rfl) hK rfl hl.1 rfl (Nat.le_of_ble_eq_true rfl) dX0_entriesBelow_19 ⟨Nat.zero_le _, Nat.zero_le _⟩ ?_
        refine lv_iconst (v := -1) hx hb dX0_entriesBelow_22 (by decide) ?_
        refine lv_icmp_eq (tgt := 39) hx hb dX0_entriesBelow_23 (by decide) (fun c_23 => ?_) (fun c_23 => ?_)
        ·
          refine lv_iinc (v := nI (y + 1)) (lv' := [(5, .int (nI (y + 1))), (0, .ref h), (1, .int (nI (lv))), (2, .int (nI (fo))), (3, .int (nI (lim))), (4, .int (nI (z)))]) hx hb dX0_entriesBelow_39 hl (k := 5) rfl (nI_1 _) (by decide) rfl (fun ls hl => ?_)
          refine lv_goto (tgt := 6) hx hb dX0_entriesBelow_42 (by decide) ?_
          exact ih_6 (y + 1) z (by omega) (hr.trans (congrArg nI (by first | exact elF_n c_23 | exact elF_m c_23 (Nat.not_lt.mpr c_33)))) ls (lv_sub hl [1, 2, 3, 4, 5, 0] rfl)
        ·
          refine lv_iload_n hx hb dX0_entriesBelow_26 rfl (lv_at hl 2 rfl) ?_
          refine lv_iload hx hb dX0_entriesBelow_27 (lv_at hl 5 rfl) ?_
          refine pu_S (As := [.int (nI (fo)), .int (nI (y))]) (rest := []) ⟨hx, hb, hml, hown, hts⟩ (kX0_image (P := fo) (i := y) (by omega) (by omega)) (va_cwS 2 hts gX0_entriesBelow_X0_image rfl rfl rfl eX0_image ⟨by decide, by decide⟩) hK rfl hl.1 rfl (Nat.le_of_ble_eq_true rfl) dX0_entriesBelow_29 ⟨Nat.zero_le _, Nat.zero_le _⟩ ?_
          refine lv_iload_n hx hb dX0_entriesBelow_32 rfl (lv_at hl 3 rfl) ?_
          refine lv_icmp_ge (tgt := 39) hx hb dX0_entriesBelow_33 (by decide) (fun c_33 => ?_) (fun c_33 => ?_)
          ·
            have c_33 := (nI_leI (by omega) (Nat.lt_trans (im_lt _ _) (by decide))).mp c_33
            refine lv_iinc (v := nI (y + 1)) (lv' := [(5, .int (nI (y + 1))), (0, .ref h), (1, .int (nI (lv))), (2, .int (nI (fo))), (3, .int (nI (lim))), (4, .int (nI (z)))]) hx hb dX0_entriesBelow_39 hl (k := 5) rfl (nI_1 _) (by decide) rfl (fun ls hl => ?_)
            refine lv_goto (tgt := 6) hx hb dX0_entriesBelow_42 (by decide) ?_
            exact ih_6 (y + 1) z (by omega) (hr.trans (congrArg nI (by first | exact elF_n c_23 | exact elF_m c_23 (Nat.not_lt.mpr c_33)))) ls (lv_sub hl [1, 2, 3, 4, 5, 0] rfl)
          ·
            have c_33 : ¬ _ := fun h9 => c_33 ((nI_leI (by omega) (Nat.lt_trans (im_lt _ _) (by decide))).mpr h9)
            refine lv_iinc (v := nI (z + 1)) (lv' := [(4, .int (nI (z + 1))), (0, .ref h), (1, .int (nI (lv))), (2, .int (nI (fo))), (3, .int (nI (lim))), (5, .int (nI (y)))]) hx hb dX0_entriesBelow_36 hl (k := 4) rfl (nI_1 _) (by decide) rfl (fun ls hl => ?_)
            refine lv_iinc (v := nI (y + 1)) (lv' := [(5, .int (nI (y + 1))), (4, .int (nI (z + 1))), (0, .ref h), (1, .int (nI (lv))), (2, .int (nI (fo))), (3, .int (nI (lim)))]) hx hb dX0_entriesBelow_39 hl (k := 5) rfl (nI_1 _) (by decide) rfl (fun ls hl => ?_)
            refine lv_goto (tgt := 6) hx hb dX0_entriesBelow_42 (by decide) ?_
            exact ih_6 (y + 1) (z + 1) (by omega) (hr.trans (congrArg nI (elF_y c_23 (Nat.lt_of_not_le c_33)))) ls (lv_sub hl [2, 3, 4, 5, 1, 0] rfl)
  exact loop_6 (n - lv) lv 0 (by omega) rfl ls (lv_sub hl [2, 3, 4, 5, 1, 0] rfl)
theorem eX0_inCoset : yX0_inCoset.cls = RX0 ∧ yX0_inCoset.cls ≠ "java/lang/invoke/MethodHandle" ∧ yX0_inCoset.cls ≠ "java/lang/invoke/VarHandle" ∧ (parseMethodDescriptor yX0_inCoset.desc).map (fun d => d.parameters.length) = some 2 := by decide +kernel
set_option maxHeartbeats 4000000 in
set_option maxRecDepth 100000 in
theorem kX0_inCoset (hP : va_P D vwCl (gW cI cG h a g f ra (nI n) (nI id) (nI ct) fc ad fl R) H) (hn : n ≤ 7) (hc : ct ≤ 12) {P k : Nat} (hp : P < 2 ^ 32) (hk : k < 2 ^ 31) : pI l yX0_inCoset wsX0_inCoset ({ frames := 3, cells := 0, slots := 0, locals := 68 } : Room) [.ref h, .int (nI (P)), .int (nI (k))] D (gT cI cG cZ) H (nI (ic (R ct) n P k)) := by
  refine pI_ofW (cc := cX0_inCoset) (maxL := 10) (ret := (some .int)) (by decide) rfl (Or.inl rfl) (Nat.le_of_ble_eq_true rfl) ?_
  intro p e s m args below meth c QQ hx hb hml hown hts hK hret ls hl
  have hl : lv_has ls 10 [(0, .ref h), (1, .int (nI (P))), (2, .int (nI (k)))] := hl
  have hown : s.vm.findClass RX0 = some m.cls := hown
  have hin0 : ∀ w ∈ wsX00, w ∈ wsX0_inCoset := fun w h => List.mem_cons_of_mem _ (List.mem_append_right _ h)
  have hl_n : (Cond.fieldLink RX0 25 "PermGroup" "n" "I").before args s = true := hts _ (by decide +kernel)
  refine lv_iload_n hx hb dX0_inCoset_0 rfl (lv_at hl 1 rfl) ?_
  refine lv_istore_n (lv' := [(3, .int (nI (P))), (0, .ref h), (1, .int (nI (P))), (2, .int (nI (k)))]) hx hb dX0_inCoset_1 rfl hl (by decide) rfl (fun ls hl => ?_)
  refine lv_iload_n hx hb dX0_inCoset_2 rfl (lv_at hl 3 rfl) ?_
  refine lv_istore (lv' := [(4, .int (nI (k))), (3, .int (nI (P))), (0, .ref h), (1, .int (nI (P))), (2, .int (nI (k)))]) hx hb dX0_inCoset_3 hl (by decide) rfl (fun ls hl => ?_)
  refine lv_iconst (v := nI (0)) hx hb dX0_inCoset_5 (by decide) ?_
  refine lv_istore (lv' := [(5, .int (nI (0))), (4, .int (nI (k))), (3, .int (nI (P))), (0, .ref h), (1, .int (nI (P))), (2, .int (nI (k)))]) hx hb dX0_inCoset_6 hl (by decide) rfl (fun ls hl => ?_)
  have loop_8 : ∀ (j lv fo be : Nat), (lv + j = n) → (nI (ic (R ct) n P k) = nI (icF (R ct) n j lv fo be)) → (fo < 2 ^ 32) → (be < 2 ^ 31) → ∀ (ls : Array Slot), lv_has ls 10 [(0, .ref h), (3, .int (nI (fo))), (4, .int (nI (be))), (5, .int (nI (lv)))] → W p l e ({ frames := 3, cells := 0, slots := 0, locals := 68 } : Room) s m args below meth c H [] 0 0 QQ (F0 m 8 ls []) := by
    intro j
    induction j with
    | zero =>
      intro lv fo be hj hr hfo hbe ls hl
      refine lv_iload hx hb dX0_inCoset_8 (lv_at hl 3 rfl) ?_
      refine lv_aload_n hx hb dX0_inCoset_10 rfl (lv_at hl 0 rfl) ?_
      refine va_get (D := D) (ci := 0) (v := .int (nI (n))) (C := RX0) (T := TX0) (N := 7) hx hb hts hin0 hown hK hP 0 rfl rfl 0 (by decide) hl_n (fun _ h9 => h9) rfl dX0_inCoset_11 ?_
      refine lv_icmp_ge (tgt := 107) hx hb dX0_inCoset_14 (by decide) (fun c_14 => ?_) (fun c_14 => ?_)
      ·
        have c_14 := (nI_leI (by omega) (by omega)).mp c_14
        refine lv_iload_n hx hb dX0_inCoset_107 rfl (lv_at hl 1 rfl) ?_
        exact hret _ _ _ (hr.symm) dX0_inCoset_108
      ·
        have c_14 : ¬ _ := fun h9 => c_14 ((nI_leI (by omega) (by omega)).mpr h9)
        exfalso; omega
    | succ j ih_8 =>
      intro lv fo be hj hr hfo hbe ls hl
      refine lv_iload hx hb dX0_inCoset_8 (lv_at hl 3 rfl) ?_
      refine lv_aload_n hx hb dX0_inCoset_10 rfl (lv_at hl 0 rfl) ?_
      refine va_get (D := D) (ci := 0) (v := .int (nI (n))) (C := RX0) (T := TX0) (N := 7) hx hb hts hin0 hown hK hP 0 rfl rfl 0 (by decide) hl_n (fun _ h9 => h9) rfl dX0_inCoset_11 ?_
      refine lv_icmp_ge (tgt := 107) hx hb dX0_inCoset_14 (by decide) (fun c_14 => ?_) (fun c_14 => ?_)
      ·
        have c_14 := (nI_leI (by omega) (by omega)).mp c_14
        exfalso; omega
      ·
        have c_14 : ¬ _ := fun h9 => c_14 ((nI_leI (by omega) (by omega)).mpr h9)
        refine lv_aload_n hx hb dX0_inCoset_17 rfl (lv_at hl 0 rfl) ?_
        refine lv_iload hx hb dX0_inCoset_18 (lv_at hl 3 rfl) ?_
        refine lv_iconst (v := nI (1)) hx hb dX0_inCoset_20 (by decide) ?_
        refine lv_iadd hx hb dX0_inCoset_21 ?_
        refine pu_tp (nI_add _ _) ?_
        refine pu_V (As := [.int (nI (lv + 1))]) (rest := []) (b := h) ⟨hx, hb, hml, hown, hts⟩ (kX0_fixersOfFirst hP hn hc (k := lv + 1) (by omega)) (cwV 1 hts gX0_inCoset_X0_fixersOfFirst rfl rfl rfl eX0_fixersOfFirst ⟨by decide, by decide⟩) (va_recv hK hP (ci := 0) (q0 := 0) rfl rfl) hK rfl hl.1 rfl (Nat.le_of_ble_eq_true rfl) dX0_inCoset_22 ⟨Nat.zero_le _, Nat.zero_le _⟩ ?_
        refine lv_istore (lv' := [(6, .int (nI (fx (R ct) n (lv + 1)))), (0, .ref h), (3, .int (nI (fo))), (4, .int (nI (be))), (5, .int (nI (lv)))]) hx hb dX0_inCoset_25 hl (by decide) rfl (fun ls hl => ?_)
        refine lv_aload_n hx hb dX0_inCoset_27 rfl (lv_at hl 1 rfl) ?_
        refine lv_iload_n hx hb dX0_inCoset_28 rfl (lv_at hl 2 rfl) ?_
        refine pu_V (As := [.int (nI (fo))]) (rest := []) (b := h) ⟨hx, hb, hml, hown, hts⟩ (kX0_invert hP hn (P := fo) (by omega)) (cwV 1 hts gX0_inCoset_X0_invert rfl rfl rfl eX0_invert ⟨by decide, by decide⟩) (va_recv hK hP (ci := 0) (q0 := 0) rfl rfl) hK rfl hl.1 rfl (Nat.le_of_ble_eq_true rfl) dX0_inCoset_29 ⟨Nat.zero_le _, Nat.zero_le _⟩ ?_
        refine lv_istore (lv' := [(7, .int (nI (bk n (fo)))), (6, .int (nI (fx (R ct) n (lv + 1)))), (0, .ref h), (3, .int (nI (fo))), (4, .int (nI (be))), (5, .int (nI (lv)))]) hx hb dX0_inCoset_32 hl (by decide) rfl (fun ls hl => ?_)
        refine lv_iconst (v := nI (0)) hx hb dX0_inCoset_34 (by decide) ?_
        refine lv_istore (lv' := [(8, .int (nI (0))), (7, .int (nI (bk n (fo)))), (6, .int (nI (fx (R ct) n (lv + 1)))), (0, .ref h), (3, .int (nI (fo))), (4, .int (nI (be))), (5, .int (nI (lv)))]) hx hb dX0_inCoset_35 hl (by decide) rfl (fun ls hl => ?_)
        have loop_37 : ∀ (i2 y be2 : Nat), (y + i2 = n) → (icI (R ct) n lv (fx (R ct) n (lv + 1)) (bk n fo) n 0 fo be = icI (R ct) n lv (fx (R ct) n (lv + 1)) (bk n fo) i2 y fo be2) → (be2 < 2 ^ 31) → ∀ (ls : Array Slot), lv_has ls 10 [(0, .ref h), (3, .int (nI (fo))), (4, .int (nI (be2))), (5, .int (nI (lv))), (6, .int (nI (fx (R ct) n (lv + 1)))), (7, .int (nI (bk n (fo)))), (8, .int (nI (y)))] → W p l e ({ frames := 3, cells := 0, slots := 0, locals := 68 } : Room) s m args below meth c H [] 0 0 QQ (F0 m 37 ls []) := by
          intro i2
          induction i2 with
          | zero =>
            intro y be2 hi2 hr2 hbe2 ls hl
            refine lv_iload hx hb dX0_inCoset_37 (lv_at hl 6 rfl) ?_
            refine lv_aload_n hx hb dX0_inCoset_39 rfl (lv_at hl 0 rfl) ?_
            refine va_get (D := D) (ci := 0) (v := .int (nI (n))) (C := RX0) (T := TX0) (N := 7) hx hb hts hin0 hown hK hP 0 rfl rfl 0 (by decide) hl_n (fun _ h9 => h9) rfl dX0_inCoset_40 ?_
            refine lv_icmp_ge (tgt := 101) hx hb dX0_inCoset_43 (by decide) (fun c_43 => ?_) (fun c_43 => ?_)
            ·
              have c_43 := (nI_leI (by omega) (by omega)).mp c_43
              refine lv_iinc (v := nI (lv + 1)) (lv' := [(5, .int (nI (lv + 1))), (0, .ref h), (3, .int (nI (fo))), (4, .int (nI (be2))), (6, .int (nI (fx (R ct) n (lv + 1)))), (7, .int (nI (bk n (fo)))), (8, .int (nI (y)))]) hx hb dX0_inCoset_101 hl (k := 3) rfl (nI_1 _) (by decide) rfl (fun ls hl => ?_)
              refine lv_goto (tgt := 8) hx hb dX0_inCoset_104 (by decide) ?_
              exact ih_8 (lv + 1) fo be2 (by omega) (hr.trans (congrArg nI (icF_step hr2))) hfo hbe2 ls (lv_sub hl [1, 2, 3, 0] rfl)
            ·
              have c_43 : ¬ _ := fun h9 => c_43 ((nI_leI (by omega) (by omega)).mpr h9)
              exfalso; omega
          | succ i2 ih_37 =>
            intro y be2 hi2 hr2 hbe2 ls hl
            refine lv_iload hx hb dX0_inCoset_37 (lv_at hl 6 rfl) ?_
            refine lv_aload_n hx hb dX0_inCoset_39 rfl (lv_at hl 0 rfl) ?_
            refine va_get (D := D) (ci := 0) (v := .int (nI (n))) (C := RX0) (T := TX0) (N := 7) hx hb hts hin0 hown hK hP 0 rfl rfl 0 (by decide) hl_n (fun _ h9 => h9) rfl dX0_inCoset_40 ?_
            refine lv_icmp_ge (tgt := 101) hx hb dX0_inCoset_43 (by decide) (fun c_43 => ?_) (fun c_43 => ?_)
            ·
              have c_43 := (nI_leI (by omega) (by omega)).mp c_43
              exfalso; omega
            ·
              have c_43 : ¬ _ := fun h9 => c_43 ((nI_leI (by omega) (by omega)).mpr h9)
              refine lv_aload_n hx hb dX0_inCoset_46 rfl (lv_at hl 0 rfl) ?_
              refine lv_iload hx hb dX0_inCoset_47 (lv_at hl 3 rfl) ?_
              refine lv_iload hx hb dX0_inCoset_49 (lv_at hl 5 rfl) ?_
              refine lv_iload hx hb dX0_inCoset_51 (lv_at hl 6 rfl) ?_
              refine pu_S (As := [.int (nI (bk n (fo))), .int (nI (y))]) (rest := [.int (nI (lv)), .ref h]) ⟨hx, hb, hml, hown, hts⟩ (kX0_image (P := bk n fo) (i := y) (Nat.lt_trans (bk_lt hn _) (by decide)) (by omega)) (va_cwS 2 hts gX0_inCoset_X0_image rfl rfl rfl eX0_image ⟨by decide, by decide⟩) hK rfl hl.1 rfl (Nat.le_of_ble_eq_true rfl) dX0_inCoset_53 ⟨Nat.zero_le _, Nat.zero_le _⟩ ?_
              refine pu_V (As := [.int (nI (lv)), .int (nI (im (bk n fo) (y)))]) (rest := []) (b := h) ⟨hx, hb, hml, hown, hts⟩ (kX0_entry hP hc (lv := lv) (x := im (bk n fo) y) (by omega) (im_lt _ _)) (cwV 2 hts gX0_inCoset_X0_entry rfl rfl rfl eX0_entry ⟨by decide, by decide⟩) (va_recv hK hP (ci := 0) (q0 := 0) rfl rfl) hK rfl hl.1 rfl (Nat.le_of_ble_eq_true rfl) dX0_inCoset_56 ⟨Nat.zero_le _, Nat.zero_le _⟩ ?_
              refine lv_istore (lv' := [(9, .int (R ct (lv * 8 + im (bk n fo) y))), (0, .ref h), (3, .int (nI (fo))), (4, .int (nI (be2))), (5, .int (nI (lv))), (6, .int (nI (fx (R ct) n (lv + 1)))), (7, .int (nI (bk n (fo)))), (8, .int (nI (y)))]) hx hb dX0_inCoset_59 hl (by decide) rfl (fun ls hl => ?_)
              refine lv_iload hx hb dX0_inCoset_61 (lv_at hl 0 rfl) ?_
              refine lv_iconst (v := -1) hx hb dX0_inCoset_63 (by decide) ?_
              refine lv_icmp_ne (tgt := 70) hx hb dX0_inCoset_64 (by decide) (fun c_64 => ?_) (fun c_64 => ?_)
              ·
                refine lv_iload hx hb dX0_inCoset_70 (lv_at hl 3 rfl) ?_
                refine lv_iload hx hb dX0_inCoset_72 (lv_at hl 5 rfl) ?_
                refine lv_icmp_ge (tgt := 88) hx hb dX0_inCoset_74 (by decide) (fun c_74 => ?_) (fun c_74 => ?_)
                ·
                  have c_74 := (nI_leI (Nat.lt_trans (fx_lt _ hn _) (by decide)) hbe2).mp c_74
                  refine lv_iload hx hb dX0_inCoset_88 (lv_at hl 3 rfl) ?_
                  refine lv_iload hx hb dX0_inCoset_90 (lv_at hl 5 rfl) ?_
                  refine lv_isub hx hb dX0_inCoset_92 ?_
                  refine pu_tp (pk_sub c_74) ?_
                  refine lv_istore (lv' := [(4, .int (nI (be2 - (fx (R ct) n (lv + 1))))), (9, .int (R ct (lv * 8 + im (bk n fo) y))), (0, .ref h), (3, .int (nI (fo))), (5, .int (nI (lv))), (6, .int (nI (fx (R ct) n (lv + 1)))), (7, .int (nI (bk n (fo)))), (8, .int (nI (y)))]) hx hb dX0_inCoset_93 hl (by decide) rfl (fun ls hl => ?_)
                  refine lv_iinc (v := nI (y + 1)) (lv' := [(8, .int (nI (y + 1))), (4, .int (nI (be2 - (fx (R ct) n (lv + 1))))), (9, .int (R ct (lv * 8 + im (bk n fo) y))), (0, .ref h), (3, .int (nI (fo))), (5, .int (nI (lv))), (6, .int (nI (fx (R ct) n (lv + 1)))), (7, .int (nI (bk n (fo))))]) hx hb dX0_inCoset_95 hl (k := 7) rfl (nI_1 _) (by decide) rfl (fun ls hl => ?_)
                  refine lv_goto (tgt := 37) hx hb dX0_inCoset_98 (by decide) ?_
                  exact ih_37 (y + 1) (be2 - fx (R ct) n (lv + 1)) (by omega) (hr2.trans (icI_sub c_64 (Nat.not_lt.mpr c_74))) (by omega) ls (lv_sub hl [3, 4, 1, 5, 6, 7, 0] rfl)
                ·
                  have c_74 : ¬ _ := fun h9 => c_74 ((nI_leI (Nat.lt_trans (fx_lt _ hn _) (by decide)) hbe2).mpr h9)
                  refine lv_aload_n hx hb dX0_inCoset_77 rfl (lv_at hl 1 rfl) ?_
                  refine lv_iload hx hb dX0_inCoset_78 (lv_at hl 0 rfl) ?_
                  refine pu_tp (z := nI (tn (R ct (lv * 8 + im (bk n fo) y)))) ((nI_tn _).symm) ?_
                  refine lv_iload_n hx hb dX0_inCoset_80 rfl (lv_at hl 2 rfl) ?_
                  refine pu_V (As := [.int (nI (tn (R ct (lv * 8 + im (bk n fo) y)))), .int (nI (fo))]) (rest := []) (b := h) ⟨hx, hb, hml, hown, hts⟩ (kX0_compose hP hn (P := tn (R ct (lv * 8 + im (bk n fo) y))) (Q := fo) (tn_lt _) (by omega)) (cwV 2 hts gX0_inCoset_X0_compose rfl rfl rfl eX0_compose ⟨by decide, by decide⟩) (va_recv hK hP (ci := 0) (q0 := 0) rfl rfl) hK rfl hl.1 rfl (Nat.le_of_ble_eq_true rfl) dX0_inCoset_81 ⟨Nat.zero_le _, Nat.zero_le _⟩ ?_
                  refine lv_istore_n (lv' := [(3, .int (nI (tm n (tn (R ct (lv * 8 + im (bk n fo) y))) (fo)))), (9, .int (R ct (lv * 8 + im (bk n fo) y))), (0, .ref h), (4, .int (nI (be2))), (5, .int (nI (lv))), (6, .int (nI (fx (R ct) n (lv + 1)))), (7, .int (nI (bk n (fo)))), (8, .int (nI (y)))]) hx hb dX0_inCoset_84 rfl hl (by decide) rfl (fun ls hl => ?_)
                  refine lv_goto (tgt := 101) hx hb dX0_inCoset_85 (by decide) ?_
                  refine lv_iinc (v := nI (lv + 1)) (lv' := [(5, .int (nI (lv + 1))), (3, .int (nI (tm n (tn (R ct (lv * 8 + im (bk n fo) y))) (fo)))), (9, .int (R ct (lv * 8 + im (bk n fo) y))), (0, .ref h), (4, .int (nI (be2))), (6, .int (nI (fx (R ct) n (lv + 1)))), (7, .int (nI (bk n (fo)))), (8, .int (nI (y)))]) hx hb dX0_inCoset_101 hl (k := 4) rfl (nI_1 _) (by decide) rfl (fun ls hl => ?_)
                  refine lv_goto (tgt := 8) hx hb dX0_inCoset_104 (by decide) ?_
                  exact ih_8 (lv + 1) (tm n (tn (R ct (lv * 8 + im (bk n fo) y))) fo) be2 (by omega) (hr.trans (congrArg nI (icF_step (hr2.trans (icI_hit c_64 (Nat.lt_of_not_le c_74)))))) (Nat.lt_trans (tm_lt hn _ _) (by decide)) hbe2 ls (lv_sub hl [3, 1, 4, 0] rfl)
              ·
                refine lv_goto (tgt := 95) hx hb dX0_inCoset_67 (by decide) ?_
                refine lv_iinc (v := nI (y + 1)) (lv' := [(8, .int (nI (y + 1))), (9, .int (R ct (lv * 8 + im (bk n fo) y))), (0, .ref h), (3, .int (nI (fo))), (4, .int (nI (be2))), (5, .int (nI (lv))), (6, .int (nI (fx (R ct) n (lv + 1)))), (7, .int (nI (bk n (fo))))]) hx hb dX0_inCoset_95 hl (k := 7) rfl (nI_1 _) (by decide) rfl (fun ls hl => ?_)
                refine lv_goto (tgt := 37) hx hb dX0_inCoset_98 (by decide) ?_
                exact ih_37 (y + 1) be2 (by omega) (hr2.trans (icI_none c_64)) hbe2 ls (lv_sub hl [2, 3, 4, 5, 6, 7, 0] rfl)
        exact loop_37 n 0 be (by omega) rfl hbe ls (lv_sub hl [3, 4, 5, 6, 2, 1, 0] rfl)
  exact loop_8 n 0 P k (by omega) rfl hp hk ls (lv_sub hl [3, 2, 1, 0] rfl)
theorem eX0_elementsBefore : yX0_elementsBefore.cls = RX0 ∧ yX0_elementsBefore.cls ≠ "java/lang/invoke/MethodHandle" ∧ yX0_elementsBefore.cls ≠ "java/lang/invoke/VarHandle" ∧ (parseMethodDescriptor yX0_elementsBefore.desc).map (fun d => d.parameters.length) = some 1 := by decide +kernel
set_option maxHeartbeats 4000000 in
set_option maxRecDepth 100000 in
theorem kX0_elementsBefore (hP : va_P D vwCl (gW cI cG h a g f ra (nI n) (nI id) (nI ct) fc ad fl R) H) (hn : n ≤ 7) (hc : ct ≤ 12) (hid : id < 2 ^ 32) {P : Nat} (hp : P < 2 ^ 32) : pI l yX0_elementsBefore wsX0_elementsBefore ({ frames := 3, cells := 0, slots := 0, locals := 68 } : Room) [.ref h, .int (nI (P))] D (gT cI cG cZ) H (nI (eb (R ct) n id P)) := by
  refine pI_ofW (cc := cX0_elementsBefore) (maxL := 6) (ret := (some .int)) (by decide) rfl (Or.inl rfl) (Nat.le_of_ble_eq_true rfl) ?_
  intro p e s m args below meth c QQ hx hb hml hown hts hK hret ls hl
  have hl : lv_has ls 6 [(0, .ref h), (1, .int (nI (P)))] := hl
  have hown : s.vm.findClass RX0 = some m.cls := hown
  have hin0 : ∀ w ∈ wsX00, w ∈ wsX0_elementsBefore := fun w h => List.mem_cons_of_mem _ (List.mem_append_right _ h)
  have hl_identity : (Cond.fieldLink RX0 66 "PermGroup" "identity" "I").before args s = true := hts _ (by decide +kernel)
  have hl_n : (Cond.fieldLink RX0 25 "PermGroup" "n" "I").before args s = true := hts _ (by decide +kernel)
  refine lv_iconst (v := nI (0)) hx hb dX0_elementsBefore_0 (by decide) ?_
  refine lv_istore_n (lv' := [(2, .int (nI (0))), (0, .ref h), (1, .int (nI (P)))]) hx hb dX0_elementsBefore_1 rfl hl (by decide) rfl (fun ls hl => ?_)
  refine lv_aload_n hx hb dX0_elementsBefore_2 rfl (lv_at hl 1 rfl) ?_
  refine va_get (D := D) (ci := 0) (v := .int (nI (id))) (C := RX0) (T := TX0) (N := 7) hx hb hts hin0 hown hK hP 0 rfl rfl 1 (by decide) hl_identity (fun _ h9 => h9) rfl dX0_elementsBefore_3 ?_
  refine lv_istore_n (lv' := [(3, .int (nI (id))), (2, .int (nI (0))), (0, .ref h), (1, .int (nI (P)))]) hx hb dX0_elementsBefore_6 rfl hl (by decide) rfl (fun ls hl => ?_)
  refine lv_iconst (v := nI (0)) hx hb dX0_elementsBefore_7 (by decide) ?_
  refine lv_istore (lv' := [(4, .int (nI (0))), (3, .int (nI (id))), (2, .int (nI (0))), (0, .ref h), (1, .int (nI (P)))]) hx hb dX0_elementsBefore_8 hl (by decide) rfl (fun ls hl => ?_)
  have loop_10 : ∀ (j lv be fo : Nat), (lv + j = n) → (nI (eb (R ct) n id P) = nI (ebF (R ct) n P j lv be fo)) → (fo < 2 ^ 32) → ∀ (ls : Array Slot), lv_has ls 6 [(0, .ref h), (1, .int (nI (P))), (2, .int (nI (be))), (3, .int (nI (fo))), (4, .int (nI (lv)))] → W p l e ({ frames := 3, cells := 0, slots := 0, locals := 68 } : Room) s m args below meth c H [] 0 0 QQ (F0 m 10 ls []) := by
    intro j
    induction j with
    | zero =>
      intro lv be fo hj hr hfo ls hl
      refine lv_iload hx hb dX0_elementsBefore_10 (lv_at hl 4 rfl) ?_
      refine lv_aload_n hx hb dX0_elementsBefore_12 rfl (lv_at hl 0 rfl) ?_
      refine va_get (D := D) (ci := 0) (v := .int (nI (n))) (C := RX0) (T := TX0) (N := 7) hx hb hts hin0 hown hK hP 0 rfl rfl 0 (by decide) hl_n (fun _ h9 => h9) rfl dX0_elementsBefore_13 ?_
      refine lv_icmp_ge (tgt := 76) hx hb dX0_elementsBefore_16 (by decide) (fun c_16 => ?_) (fun c_16 => ?_)
      ·
        have c_16 := (nI_leI (by omega) (by omega)).mp c_16
        refine lv_iload_n hx hb dX0_elementsBefore_76 rfl (lv_at hl 2 rfl) ?_
        exact hret _ _ _ (hr.symm) dX0_elementsBefore_77
      ·
        have c_16 : ¬ _ := fun h9 => c_16 ((nI_leI (by omega) (by omega)).mpr h9)
        exfalso; omega
    | succ j ih_10 =>
      intro lv be fo hj hr hfo ls hl
      refine lv_iload hx hb dX0_elementsBefore_10 (lv_at hl 4 rfl) ?_
      refine lv_aload_n hx hb dX0_elementsBefore_12 rfl (lv_at hl 0 rfl) ?_
      refine va_get (D := D) (ci := 0) (v := .int (nI (n))) (C := RX0) (T := TX0) (N := 7) hx hb hts hin0 hown hK hP 0 rfl rfl 0 (by decide) hl_n (fun _ h9 => h9) rfl dX0_elementsBefore_13 ?_
      refine lv_icmp_ge (tgt := 76) hx hb dX0_elementsBefore_16 (by decide) (fun c_16 => ?_) (fun c_16 => ?_)
      ·
        have c_16 := (nI_leI (by omega) (by omega)).mp c_16
        exfalso; omega
      ·
        have c_16 : ¬ _ := fun h9 => c_16 ((nI_leI (by omega) (by omega)).mpr h9)
        refine lv_iload_n hx hb dX0_elementsBefore_19 rfl (lv_at hl 1 rfl) ?_
        refine lv_iload hx hb dX0_elementsBefore_20 (lv_at hl 4 rfl) ?_
        refine pu_S (As := [.int (nI (P)), .int (nI (lv))]) (rest := []) ⟨hx, hb, hml, hown, hts⟩ (kX0_image (P := P) (i := lv) (by omega) (by omega)) (va_cwS 2 hts gX0_elementsBefore_X0_image rfl rfl rfl eX0_image ⟨by decide, by decide⟩) hK rfl hl.1 rfl (Nat.le_of_ble_eq_true rfl) dX0_elementsBefore_22 ⟨Nat.zero_le _, Nat.zero_le _⟩ ?_
        refine lv_istore (lv' := [(5, .int (nI (im (P) (lv)))), (0, .ref h), (1, .int (nI (P))), (2, .int (nI (be))), (3, .int (nI (fo))), (4, .int (nI (lv)))]) hx hb dX0_elementsBefore_25 hl (by decide) rfl (fun ls hl => ?_)
        refine lv_iload_n hx hb dX0_elementsBefore_27 rfl (lv_at hl 3 rfl) ?_
        refine lv_aload_n hx hb dX0_elementsBefore_28 rfl (lv_at hl 1 rfl) ?_
        refine lv_iload hx hb dX0_elementsBefore_29 (lv_at hl 5 rfl) ?_
        refine lv_iload_n hx hb dX0_elementsBefore_31 rfl (lv_at hl 4 rfl) ?_
        refine lv_iload hx hb dX0_elementsBefore_32 (lv_at hl 0 rfl) ?_
        refine pu_V (As := [.int (nI (lv)), .int (nI (fo)), .int (nI (im (P) (lv)))]) (rest := [.int (nI (be))]) (b := h) ⟨hx, hb, hml, hown, hts⟩ (kX0_entriesBelow hP hn hc (lv := lv) (fo := fo) (lim := im P lv) (by omega) hfo (Nat.lt_trans (im_lt _ _) (by decide))) (cwV 3 hts gX0_elementsBefore_X0_entriesBelow rfl rfl rfl eX0_entriesBelow ⟨by decide, by decide⟩) (va_recv hK hP (ci := 0) (q0 := 0) rfl rfl) hK rfl hl.1 rfl (Nat.le_of_ble_eq_true rfl) dX0_elementsBefore_34 ⟨Nat.zero_le _, Nat.zero_le _⟩ ?_
        refine lv_aload_n hx hb dX0_elementsBefore_37 rfl (lv_at hl 1 rfl) ?_
        refine lv_iload hx hb dX0_elementsBefore_38 (lv_at hl 5 rfl) ?_
        refine lv_iconst (v := nI (1)) hx hb dX0_elementsBefore_40 (by decide) ?_
        refine lv_iadd hx hb dX0_elementsBefore_41 ?_
        refine pu_tp (nI_add _ _) ?_
        refine pu_V (As := [.int (nI (lv + 1))]) (rest := [.int (nI (elF (R ct) lv fo (im P lv) (n - lv) lv 0)), .int (nI (be))]) (b := h) ⟨hx, hb, hml, hown, hts⟩ (kX0_fixersOfFirst hP hn hc (k := lv + 1) (by omega)) (cwV 1 hts gX0_elementsBefore_X0_fixersOfFirst rfl rfl rfl eX0_fixersOfFirst ⟨by decide, by decide⟩) (va_recv hK hP (ci := 0) (q0 := 0) rfl rfl) hK rfl hl.1 rfl (Nat.le_of_ble_eq_true rfl) dX0_elementsBefore_42 ⟨Nat.zero_le _, Nat.zero_le _⟩ ?_
        refine lv_imul hx hb dX0_elementsBefore_45 ?_
        refine pu_tp (pk_mul _ _) ?_
        refine lv_iadd hx hb dX0_elementsBefore_46 ?_
        refine pu_tp (nI_add _ _) ?_
        refine lv_istore_n (lv' := [(2, .int (nI (be + ((elF (R ct) lv fo (im P lv) (n - lv) lv 0) * (fx (R ct) n (lv + 1)))))), (5, .int (nI (im (P) (lv)))), (0, .ref h), (1, .int (nI (P))), (3, .int (nI (fo))), (4, .int (nI (lv)))]) hx hb dX0_elementsBefore_47 rfl hl (by decide) rfl (fun ls hl => ?_)
        refine lv_aload_n hx hb dX0_elementsBefore_48 rfl (lv_at hl 2 rfl) ?_
        refine lv_aload_n hx hb dX0_elementsBefore_49 rfl (lv_at hl 2 rfl) ?_
        refine lv_iload hx hb dX0_elementsBefore_50 (lv_at hl 5 rfl) ?_
        refine lv_aload_n hx hb dX0_elementsBefore_52 rfl (lv_at hl 2 rfl) ?_
        refine lv_iload_n hx hb dX0_elementsBefore_53 rfl (lv_at hl 4 rfl) ?_
        refine pu_V (As := [.int (nI (fo))]) (rest := [.int (nI (lv)), .ref h, .ref h]) (b := h) ⟨hx, hb, hml, hown, hts⟩ (kX0_invert hP hn (P := fo) (by omega)) (cwV 1 hts gX0_elementsBefore_X0_invert rfl rfl rfl eX0_invert ⟨by decide, by decide⟩) (va_recv hK hP (ci := 0) (q0 := 0) rfl rfl) hK rfl hl.1 rfl (Nat.le_of_ble_eq_true rfl) dX0_elementsBefore_54 ⟨Nat.zero_le _, Nat.zero_le _⟩ ?_
        refine lv_iload hx hb dX0_elementsBefore_57 (lv_at hl 1 rfl) ?_
        refine pu_S (As := [.int (nI (bk n (fo))), .int (nI (im (P) (lv)))]) (rest := [.int (nI (lv)), .ref h, .ref h]) ⟨hx, hb, hml, hown, hts⟩ (kX0_image (P := bk n fo) (i := im P lv) (Nat.lt_trans (bk_lt hn _) (by decide)) (Nat.le_trans (im_le _ _) (by decide))) (va_cwS 2 hts gX0_elementsBefore_X0_image rfl rfl rfl eX0_image ⟨by decide, by decide⟩) hK rfl hl.1 rfl (Nat.le_of_ble_eq_true rfl) dX0_elementsBefore_59 ⟨Nat.zero_le _, Nat.zero_le _⟩ ?_
        refine pu_V (As := [.int (nI (lv)), .int (nI (im (bk n fo) (im P lv)))]) (rest := [.ref h]) (b := h) ⟨hx, hb, hml, hown, hts⟩ (kX0_entry hP hc (lv := lv) (x := im (bk n fo) (im P lv)) (by omega) (im_lt _ _)) (cwV 2 hts gX0_elementsBefore_X0_entry rfl rfl rfl eX0_entry ⟨by decide, by decide⟩) (va_recv hK hP (ci := 0) (q0 := 0) rfl rfl) hK rfl hl.1 rfl (Nat.le_of_ble_eq_true rfl) dX0_elementsBefore_62 ⟨Nat.zero_le _, Nat.zero_le _⟩ ?_
        refine pu_tp (z := nI (tn (R ct (lv * 8 + im (bk n fo) (im P lv))))) ((nI_tn _).symm) ?_
        refine lv_iload_n hx hb dX0_elementsBefore_65 rfl (lv_at hl 4 rfl) ?_
        refine pu_V (As := [.int (nI (tn (R ct (lv * 8 + im (bk n fo) (im P lv))))), .int (nI (fo))]) (rest := []) (b := h) ⟨hx, hb, hml, hown, hts⟩ (kX0_compose hP hn (P := tn (R ct (lv * 8 + im (bk n fo) (im P lv)))) (Q := fo) (tn_lt _) (by omega)) (cwV 2 hts gX0_elementsBefore_X0_compose rfl rfl rfl eX0_compose ⟨by decide, by decide⟩) (va_recv hK hP (ci := 0) (q0 := 0) rfl rfl) hK rfl hl.1 rfl (Nat.le_of_ble_eq_true rfl) dX0_elementsBefore_66 ⟨Nat.zero_le _, Nat.zero_le _⟩ ?_
        refine lv_istore_n (lv' := [(3, .int (nI (tm n (tn (R ct (lv * 8 + im (bk n fo) (im P lv)))) (fo)))), (2, .int (nI (be + ((elF (R ct) lv fo (im P lv) (n - lv) lv 0) * (fx (R ct) n (lv + 1)))))), (5, .int (nI (im (P) (lv)))), (0, .ref h), (1, .int (nI (P))), (4, .int (nI (lv)))]) hx hb dX0_elementsBefore_69 rfl hl (by decide) rfl (fun ls hl => ?_)
        refine lv_iinc (v := nI (lv + 1)) (lv' := [(4, .int (nI (lv + 1))), (3, .int (nI (tm n (tn (R ct (lv * 8 + im (bk n fo) (im P lv)))) (fo)))), (2, .int (nI (be + ((elF (R ct) lv fo (im P lv) (n - lv) lv 0) * (fx (R ct) n (lv + 1)))))), (5, .int (nI (im (P) (lv)))), (0, .ref h), (1, .int (nI (P)))]) hx hb dX0_elementsBefore_70 hl (k := 5) rfl (nI_1 _) (by decide) rfl (fun ls hl => ?_)
        refine lv_goto (tgt := 10) hx hb dX0_elementsBefore_73 (by decide) ?_
        exact ih_10 (lv + 1) (be + elF (R ct) lv fo (im P lv) (n - lv) lv 0 * fx (R ct) n (lv + 1)) (tm n (tn (R ct (lv * 8 + im (bk n fo) (im P lv)))) fo) (by omega) hr (Nat.lt_trans (tm_lt hn _ _) (by decide)) ls (lv_sub hl [4, 5, 2, 1, 0] rfl)
  exact loop_10 n 0 0 id (by omega) rfl hid ls (lv_sub hl [3, 4, 2, 1, 0] rfl)
end CXA
end
section
section CXB
variable {l : Launch} {D : va_G} {cI cG cZ : ClassId} {h a g f : Nat} {ra : Nat → Nat} {n id ct : Nat} {fc : Int32} {ad fl : Nat → Int32} {R : Nat → Nat → Int32} {H : Heap}
theorem eX0_degree : yX0_degree.cls = RX0 ∧ yX0_degree.cls ≠ "java/lang/invoke/MethodHandle" ∧ yX0_degree.cls ≠ "java/lang/invoke/VarHandle" ∧ (parseMethodDescriptor yX0_degree.desc).map (fun d => d.parameters.length) = some 0 := by decide +kernel
set_option maxHeartbeats 4000000 in
set_option maxRecDepth 100000 in
theorem kX0_degree (hP : va_P D vwCl (gW cI cG h a g f ra (nI n) (nI id) (nI ct) fc ad fl R) H)  : pI l yX0_degree wsX0_degree ({ frames := 0, cells := 0, slots := 0, locals := 0 } : Room) [.ref h] D (gT cI cG cZ) H (nI n) := by
  refine pI_ofW (cc := cX0_degree) (maxL := 1) (ret := (some .int)) (by decide) rfl (Or.inl rfl) (Nat.le_of_ble_eq_true rfl) ?_
  intro p e s m args below meth c QQ hx hb hml hown hts hK hret ls hl
  have hl : lv_has ls 1 [(0, .ref h)] := hl
  have hown : s.vm.findClass RX0 = some m.cls := hown
  have hin0 : ∀ w ∈ wsX00, w ∈ wsX0_degree := fun w h => List.mem_cons_of_mem _ (List.mem_append_right _ h)
  have hl_n : (Cond.fieldLink RX0 25 "PermGroup" "n" "I").before args s = true := hts _ (by decide +kernel)
  refine lv_aload_n hx hb dX0_degree_0 rfl (lv_at hl 0 rfl) ?_
  refine va_get (D := D) (ci := 0) (v := .int (nI (n))) (C := RX0) (T := TX0) (N := 7) hx hb hts hin0 hown hK hP 0 rfl rfl 0 (by decide) hl_n (fun _ h9 => h9) rfl dX0_degree_1 ?_
  exact hret _ _ _ (rfl) dX0_degree_4
theorem eX0_generators : yX0_generators.cls = RX0 ∧ yX0_generators.cls ≠ "java/lang/invoke/MethodHandle" ∧ yX0_generators.cls ≠ "java/lang/invoke/VarHandle" ∧ (parseMethodDescriptor yX0_generators.desc).map (fun d => d.parameters.length) = some 0 := by decide +kernel
set_option maxHeartbeats 4000000 in
set_option maxRecDepth 100000 in
theorem kX0_generators (hP : va_P D vwCl (gW cI cG h a g f ra (nI n) (nI id) (nI ct) fc ad fl R) H)  : pI l yX0_generators wsX0_generators ({ frames := 0, cells := 0, slots := 0, locals := 0 } : Room) [.ref h] D (gT cI cG cZ) H (nI ct) := by
  refine pI_ofW (cc := cX0_generators) (maxL := 1) (ret := (some .int)) (by decide) rfl (Or.inl rfl) (Nat.le_of_ble_eq_true rfl) ?_
  intro p e s m args below meth c QQ hx hb hml hown hts hK hret ls hl
  have hl : lv_has ls 1 [(0, .ref h)] := hl
  have hown : s.vm.findClass RX0 = some m.cls := hown
  have hin0 : ∀ w ∈ wsX00, w ∈ wsX0_generators := fun w h => List.mem_cons_of_mem _ (List.mem_append_right _ h)
  have hl_count : (Cond.fieldLink RX0 33 "PermGroup" "count" "I").before args s = true := hts _ (by decide +kernel)
  refine lv_aload_n hx hb dX0_generators_0 rfl (lv_at hl 0 rfl) ?_
  refine va_get (D := D) (ci := 0) (v := .int (nI (ct))) (C := RX0) (T := TX0) (N := 7) hx hb hts hin0 hown hK hP 0 rfl rfl 2 (by decide) hl_count (fun _ h9 => h9) rfl dX0_generators_1 ?_
  exact hret _ _ _ (rfl) dX0_generators_4
theorem eX0_generator : yX0_generator.cls = RX0 ∧ yX0_generator.cls ≠ "java/lang/invoke/MethodHandle" ∧ yX0_generator.cls ≠ "java/lang/invoke/VarHandle" ∧ (parseMethodDescriptor yX0_generator.desc).map (fun d => d.parameters.length) = some 1 := by decide +kernel
set_option maxHeartbeats 4000000 in
set_option maxRecDepth 100000 in
theorem kX0_generator (hP : va_P D vwCl (gW cI cG h a g f ra (nI n) (nI id) (nI ct) fc ad fl R) H) (hc : ct ≤ 12) {k : Int32} : pI l yX0_generator wsX0_generator ({ frames := 0, cells := 0, slots := 0, locals := 0 } : Room) [.ref h, .int (k)] D (gT cI cG cZ) H (genI ad ct k) := by
  refine pI_ofW (cc := cX0_generator) (maxL := 2) (ret := (some .int)) (by decide) rfl (Or.inl rfl) (Nat.le_of_ble_eq_true rfl) ?_
  intro p e s m args below meth c QQ hx hb hml hown hts hK hret ls hl
  have hl : lv_has ls 2 [(0, .ref h), (1, .int (k))] := hl
  have hown : s.vm.findClass RX0 = some m.cls := hown
  have hin0 : ∀ w ∈ wsX00, w ∈ wsX0_generator := fun w h => List.mem_cons_of_mem _ (List.mem_append_right _ h)
  have hl_added : (Cond.fieldLink RX0 9 "PermGroup" "added" "[I").before args s = true := hts _ (by decide +kernel)
  have hl_count : (Cond.fieldLink RX0 33 "PermGroup" "count" "I").before args s = true := hts _ (by decide +kernel)
  refine lv_iload_n hx hb dX0_generator_0 rfl (lv_at hl 1 rfl) ?_
  refine lv_if_lt (tgt := 12) hx hb dX0_generator_1 (by decide) (fun c_1 => ?_) (fun c_1 => ?_)
  ·
    refine lv_iconst (v := -1) hx hb dX0_generator_12 (by decide) ?_
    refine lv_goto (tgt := 22) hx hb dX0_generator_13 (by decide) ?_
    exact hret _ _ _ (by first | exact (if_pos c_1).symm | exact ((if_neg c_1).trans (if_neg c_9)).symm) dX0_generator_22
  ·
    refine lv_iload_n hx hb dX0_generator_4 rfl (lv_at hl 1 rfl) ?_
    refine lv_aload_n hx hb dX0_generator_5 rfl (lv_at hl 0 rfl) ?_
    refine va_get (D := D) (ci := 0) (v := .int (nI (ct))) (C := RX0) (T := TX0) (N := 7) hx hb hts hin0 hown hK hP 0 rfl rfl 2 (by decide) hl_count (fun _ h9 => h9) rfl dX0_generator_6 ?_
    refine lv_icmp_lt (tgt := 16) hx hb dX0_generator_9 (by decide) (fun c_9 => ?_) (fun c_9 => ?_)
    ·
      obtain ⟨X, hX, rfl⟩ := nb_ix c_1 c_9 (by omega)
      refine lv_aload_n hx hb dX0_generator_16 rfl (lv_at hl 0 rfl) ?_
      refine va_get (D := D) (ci := 0) (v := .ref a) (C := RX0) (T := TX0) (N := 7) hx hb hts hin0 hown hK hP 0 rfl rfl 3 (by decide) hl_added (fun _ h9 => h9) rfl dX0_generator_17 ?_
      refine lv_iload_n hx hb dX0_generator_20 rfl (lv_at hl 1 rfl) ?_
      refine va_iald hx hb hK hP 1 0 rfl rfl (vp_in_nI (by omega) (by omega)) dX0_generator_21 ?_
      refine pu_tp (nb_clamp (f := ad) (by omega)) ?_
      exact hret _ _ _ (by rw [genI, if_neg c_1, if_pos c_9, tn_nI (by omega)]) dX0_generator_22
    ·
      refine lv_iconst (v := -1) hx hb dX0_generator_12 (by decide) ?_
      refine lv_goto (tgt := 22) hx hb dX0_generator_13 (by decide) ?_
      exact hret _ _ _ (by first | exact (if_pos c_1).symm | exact ((if_neg c_1).trans (if_neg c_9)).symm) dX0_generator_22
theorem eX0_product : yX0_product.cls = RX0 ∧ yX0_product.cls ≠ "java/lang/invoke/MethodHandle" ∧ yX0_product.cls ≠ "java/lang/invoke/VarHandle" ∧ (parseMethodDescriptor yX0_product.desc).map (fun d => d.parameters.length) = some 2 := by decide +kernel
set_option maxHeartbeats 4000000 in
set_option maxRecDepth 100000 in
theorem kX0_product (hP : va_P D vwCl (gW cI cG h a g f ra (nI n) (nI id) (nI ct) fc ad fl R) H) (hn : n ≤ 7) {P Q : Nat} (hp : P < 2 ^ 32) (hq : Q < 2 ^ 32) : pI l yX0_product wsX0_product ({ frames := 2, cells := 0, slots := 0, locals := 45 } : Room) [.ref h, .int (nI (P)), .int (nI (Q))] D (gT cI cG cZ) H (if isP n P = true ∧ isP n Q = true then nI (tm n P Q) else -1) := by
  refine pI_ofW (cc := cX0_product) (maxL := 3) (ret := (some .int)) (by decide) rfl (Or.inl rfl) (Nat.le_of_ble_eq_true rfl) ?_
  intro p e s m args below meth c QQ hx hb hml hown hts hK hret ls hl
  have hl : lv_has ls 3 [(0, .ref h), (1, .int (nI (P))), (2, .int (nI (Q)))] := hl
  have hown : s.vm.findClass RX0 = some m.cls := hown
  refine lv_aload_n hx hb dX0_product_0 rfl (lv_at hl 0 rfl) ?_
  refine lv_iload_n hx hb dX0_product_1 rfl (lv_at hl 1 rfl) ?_
  refine pu_V (As := [.int (nI (P))]) (rest := []) (b := h) ⟨hx, hb, hml, hown, hts⟩ (kX0_isPermutation hP hn (P := P) hp) (cwV 1 hts gX0_product_X0_isPermutation rfl rfl rfl eX0_isPermutation ⟨by decide, by decide⟩) (va_recv hK hP (ci := 0) (q0 := 0) rfl rfl) hK rfl hl.1 rfl (Nat.le_of_ble_eq_true rfl) dX0_product_2 ⟨Nat.zero_le _, Nat.zero_le _⟩ ?_
  refine lv_if_eq (tgt := 25) hx hb dX0_product_5 (by decide) (fun c_5 => ?_) (fun c_5 => ?_)
  ·
    have c_5 := b01_f c_5
    refine lv_iconst (v := -1) hx hb dX0_product_25 (by decide) ?_
    exact hret _ _ _ (by first | exact (if_neg (fun q => by rw [c_5] at q; exact absurd q.1 (by decide))).symm | exact (if_neg (fun q => by rw [c_13] at q; exact absurd q.2 (by decide))).symm) dX0_product_26
  ·
    have c_5 := b01_t c_5
    refine lv_aload_n hx hb dX0_product_8 rfl (lv_at hl 0 rfl) ?_
    refine lv_iload_n hx hb dX0_product_9 rfl (lv_at hl 2 rfl) ?_
    refine pu_V (As := [.int (nI (Q))]) (rest := []) (b := h) ⟨hx, hb, hml, hown, hts⟩ (kX0_isPermutation hP hn (P := Q) hq) (cwV 1 hts gX0_product_X0_isPermutation rfl rfl rfl eX0_isPermutation ⟨by decide, by decide⟩) (va_recv hK hP (ci := 0) (q0 := 0) rfl rfl) hK rfl hl.1 rfl (Nat.le_of_ble_eq_true rfl) dX0_product_10 ⟨Nat.zero_le _, Nat.zero_le _⟩ ?_
    refine lv_if_eq (tgt := 25) hx hb dX0_product_13 (by decide) (fun c_13 => ?_) (fun c_13 => ?_)
    ·
      have c_13 := b01_f c_13
      refine lv_iconst (v := -1) hx hb dX0_product_25 (by decide) ?_
      exact hret _ _ _ (by first | exact (if_neg (fun q => by rw [c_5] at q; exact absurd q.1 (by decide))).symm | exact (if_neg (fun q => by rw [c_13] at q; exact absurd q.2 (by decide))).symm) dX0_product_26
    ·
      have c_13 := b01_t c_13
      refine lv_aload_n hx hb dX0_product_16 rfl (lv_at hl 0 rfl) ?_
      refine lv_iload_n hx hb dX0_product_17 rfl (lv_at hl 1 rfl) ?_
      refine lv_iload_n hx hb dX0_product_18 rfl (lv_at hl 2 rfl) ?_
      refine pu_V (As := [.int (nI (P)), .int (nI (Q))]) (rest := []) (b := h) ⟨hx, hb, hml, hown, hts⟩ (kX0_compose hP hn (P := P) (Q := Q) hp hq) (cwV 2 hts gX0_product_X0_compose rfl rfl rfl eX0_compose ⟨by decide, by decide⟩) (va_recv hK hP (ci := 0) (q0 := 0) rfl rfl) hK rfl hl.1 rfl (Nat.le_of_ble_eq_true rfl) dX0_product_19 ⟨Nat.zero_le _, Nat.zero_le _⟩ ?_
      refine lv_goto (tgt := 26) hx hb dX0_product_22 (by decide) ?_
      exact hret _ _ _ ((if_pos ⟨c_5, c_13⟩).symm) dX0_product_26
theorem eX0_inverse : yX0_inverse.cls = RX0 ∧ yX0_inverse.cls ≠ "java/lang/invoke/MethodHandle" ∧ yX0_inverse.cls ≠ "java/lang/invoke/VarHandle" ∧ (parseMethodDescriptor yX0_inverse.desc).map (fun d => d.parameters.length) = some 1 := by decide +kernel
set_option maxHeartbeats 4000000 in
set_option maxRecDepth 100000 in
theorem kX0_inverse (hP : va_P D vwCl (gW cI cG h a g f ra (nI n) (nI id) (nI ct) fc ad fl R) H) (hn : n ≤ 7) {P : Nat} (hp : P < 2 ^ 32) : pI l yX0_inverse wsX0_inverse ({ frames := 2, cells := 0, slots := 0, locals := 44 } : Room) [.ref h, .int (nI (P))] D (gT cI cG cZ) H (if isP n P = true then nI (bk n P) else -1) := by
  refine pI_ofW (cc := cX0_inverse) (maxL := 2) (ret := (some .int)) (by decide) rfl (Or.inl rfl) (Nat.le_of_ble_eq_true rfl) ?_
  intro p e s m args below meth c QQ hx hb hml hown hts hK hret ls hl
  have hl : lv_has ls 2 [(0, .ref h), (1, .int (nI (P)))] := hl
  have hown : s.vm.findClass RX0 = some m.cls := hown
  refine lv_aload_n hx hb dX0_inverse_0 rfl (lv_at hl 0 rfl) ?_
  refine lv_iload_n hx hb dX0_inverse_1 rfl (lv_at hl 1 rfl) ?_
  refine pu_V (As := [.int (nI (P))]) (rest := []) (b := h) ⟨hx, hb, hml, hown, hts⟩ (kX0_isPermutation hP hn (P := P) hp) (cwV 1 hts gX0_inverse_X0_isPermutation rfl rfl rfl eX0_isPermutation ⟨by decide, by decide⟩) (va_recv hK hP (ci := 0) (q0 := 0) rfl rfl) hK rfl hl.1 rfl (Nat.le_of_ble_eq_true rfl) dX0_inverse_2 ⟨Nat.zero_le _, Nat.zero_le _⟩ ?_
  refine lv_if_eq (tgt := 16) hx hb dX0_inverse_5 (by decide) (fun c_5 => ?_) (fun c_5 => ?_)
  ·
    have c_5 := b01_f c_5
    refine lv_iconst (v := -1) hx hb dX0_inverse_16 (by decide) ?_
    exact hret _ _ _ (by rw [c_5]; rfl) dX0_inverse_17
  ·
    have c_5 := b01_t c_5
    refine lv_aload_n hx hb dX0_inverse_8 rfl (lv_at hl 0 rfl) ?_
    refine lv_iload_n hx hb dX0_inverse_9 rfl (lv_at hl 1 rfl) ?_
    refine pu_V (As := [.int (nI (P))]) (rest := []) (b := h) ⟨hx, hb, hml, hown, hts⟩ (kX0_invert hP hn (P := P) hp) (cwV 1 hts gX0_inverse_X0_invert rfl rfl rfl eX0_invert ⟨by decide, by decide⟩) (va_recv hK hP (ci := 0) (q0 := 0) rfl rfl) hK rfl hl.1 rfl (Nat.le_of_ble_eq_true rfl) dX0_inverse_10 ⟨Nat.zero_le _, Nat.zero_le _⟩ ?_
    refine lv_goto (tgt := 17) hx hb dX0_inverse_13 (by decide) ?_
    exact hret _ _ _ ((if_pos c_5).symm) dX0_inverse_17
theorem eX0_order : yX0_order.cls = RX0 ∧ yX0_order.cls ≠ "java/lang/invoke/MethodHandle" ∧ yX0_order.cls ≠ "java/lang/invoke/VarHandle" ∧ (parseMethodDescriptor yX0_order.desc).map (fun d => d.parameters.length) = some 0 := by decide +kernel
set_option maxHeartbeats 4000000 in
set_option maxRecDepth 100000 in
theorem kX0_order (hP : va_P D vwCl (gW cI cG h a g f ra (nI n) (nI id) (nI ct) fc ad fl R) H) (hn : n ≤ 7) (hc : ct ≤ 12) : pI l yX0_order wsX0_order ({ frames := 3, cells := 0, slots := 0, locals := 68 } : Room) [.ref h] D (gT cI cG cZ) H (nI (fx (R ct) n 0)) := by
  refine pI_ofW (cc := cX0_order) (maxL := 1) (ret := (some .int)) (by decide) rfl (Or.inl rfl) (Nat.le_of_ble_eq_true rfl) ?_
  intro p e s m args below meth c QQ hx hb hml hown hts hK hret ls hl
  have hl : lv_has ls 1 [(0, .ref h)] := hl
  have hown : s.vm.findClass RX0 = some m.cls := hown
  refine lv_aload_n hx hb dX0_order_0 rfl (lv_at hl 0 rfl) ?_
  refine lv_iconst (v := nI (0)) hx hb dX0_order_1 (by decide) ?_
  refine pu_V (As := [.int (nI (0))]) (rest := []) (b := h) ⟨hx, hb, hml, hown, hts⟩ (kX0_fixersOfFirst hP hn hc (k := 0) (by omega)) (cwV 1 hts gX0_order_X0_fixersOfFirst rfl rfl rfl eX0_fixersOfFirst ⟨by decide, by decide⟩) (va_recv hK hP (ci := 0) (q0 := 0) rfl rfl) hK rfl hl.1 rfl (Nat.le_of_ble_eq_true rfl) dX0_order_2 ⟨Nat.zero_le _, Nat.zero_le _⟩ ?_
  exact hret _ _ _ (rfl) dX0_order_5
theorem eX0_contains : yX0_contains.cls = RX0 ∧ yX0_contains.cls ≠ "java/lang/invoke/MethodHandle" ∧ yX0_contains.cls ≠ "java/lang/invoke/VarHandle" ∧ (parseMethodDescriptor yX0_contains.desc).map (fun d => d.parameters.length) = some 1 := by decide +kernel
set_option maxHeartbeats 4000000 in
set_option maxRecDepth 100000 in
theorem kX0_contains (hP : va_P D vwCl (gW cI cG h a g f ra (nI n) (nI id) (nI ct) fc ad fl R) H) (hn : n ≤ 7) (hc : ct ≤ 12) (hid : id < 2 ^ 32) {P : Nat} (hp : P < 2 ^ 32) : pI l yX0_contains wsX0_contains ({ frames := 4, cells := 0, slots := 0, locals := 91 } : Room) [.ref h, .int (nI (P))] D (gT cI cG cZ) H (b01 (isP n P && decide (rs (R ct) n P = id))) := by
  refine pI_ofW (cc := cX0_contains) (maxL := 2) (ret := (some .boolean)) (by decide) rfl (Or.inr ⟨rfl, b01_or _⟩) (Nat.le_of_ble_eq_true rfl) ?_
  intro p e s m args below meth c QQ hx hb hml hown hts hK hret ls hl
  have hl : lv_has ls 2 [(0, .ref h), (1, .int (nI (P)))] := hl
  have hown : s.vm.findClass RX0 = some m.cls := hown
  refine lv_aload_n hx hb dX0_contains_0 rfl (lv_at hl 0 rfl) ?_
  refine lv_iload_n hx hb dX0_contains_1 rfl (lv_at hl 1 rfl) ?_
  refine pu_V (As := [.int (nI (P))]) (rest := []) (b := h) ⟨hx, hb, hml, hown, hts⟩ (kX0_isPermutation hP hn (P := P) hp) (cwV 1 hts gX0_contains_X0_isPermutation rfl rfl rfl eX0_isPermutation ⟨by decide, by decide⟩) (va_recv hK hP (ci := 0) (q0 := 0) rfl rfl) hK rfl hl.1 rfl (Nat.le_of_ble_eq_true rfl) dX0_contains_2 ⟨Nat.zero_le _, Nat.zero_le _⟩ ?_
  refine lv_if_eq (tgt := 20) hx hb dX0_contains_5 (by decide) (fun c_5 => ?_) (fun c_5 => ?_)
  ·
    have c_5 := b01_f c_5
    refine lv_iconst (v := nI (0)) hx hb dX0_contains_20 (by decide) ?_
    exact hret _ _ _ (by first | (rw [c_5]; rfl) | (rw [c_13, Bool.and_false]; rfl)) dX0_contains_21
  ·
    have c_5 := b01_t c_5
    refine lv_aload_n hx hb dX0_contains_8 rfl (lv_at hl 0 rfl) ?_
    refine lv_iload_n hx hb dX0_contains_9 rfl (lv_at hl 1 rfl) ?_
    refine pu_V (As := [.int (nI (P))]) (rest := []) (b := h) ⟨hx, hb, hml, hown, hts⟩ (kX0_isElement hP hn hc hid hp) (cwV 1 hts gX0_contains_X0_isElement rfl rfl rfl eX0_isElement ⟨by decide, by decide⟩) (va_recv hK hP (ci := 0) (q0 := 0) rfl rfl) hK rfl hl.1 rfl (Nat.le_of_ble_eq_true rfl) dX0_contains_10 ⟨Nat.zero_le _, Nat.zero_le _⟩ ?_
    refine lv_if_eq (tgt := 20) hx hb dX0_contains_13 (by decide) (fun c_13 => ?_) (fun c_13 => ?_)
    ·
      have c_13 := b01_f c_13
      refine lv_iconst (v := nI (0)) hx hb dX0_contains_20 (by decide) ?_
      exact hret _ _ _ (by first | (rw [c_5]; rfl) | (rw [c_13, Bool.and_false]; rfl)) dX0_contains_21
    ·
      have c_13 := b01_t c_13
      refine lv_iconst (v := nI (1)) hx hb dX0_contains_16 (by decide) ?_
      refine lv_goto (tgt := 21) hx hb dX0_contains_17 (by decide) ?_
      exact hret _ _ _ (by rw [c_5, c_13]; rfl) dX0_contains_21
theorem eX0_orbit : yX0_orbit.cls = RX0 ∧ yX0_orbit.cls ≠ "java/lang/invoke/MethodHandle" ∧ yX0_orbit.cls ≠ "java/lang/invoke/VarHandle" ∧ (parseMethodDescriptor yX0_orbit.desc).map (fun d => d.parameters.length) = some 1 := by decide +kernel
set_option maxHeartbeats 4000000 in
set_option maxRecDepth 100000 in
theorem kX0_orbit (hP : va_P D vwCl (gW cI cG h a g f ra (nI n) (nI id) (nI ct) fc ad fl R) H) (hn : n ≤ 7) (hc : ct ≤ 12) {x : Int32} : pI l yX0_orbit wsX0_orbit ({ frames := 2, cells := 0, slots := 0, locals := 45 } : Room) [.ref h, .int (x)] D (gT cI cG cZ) H (orbI ad n ct x) := by
  refine pI_ofW (cc := cX0_orbit) (maxL := 5) (ret := (some .int)) (by decide) rfl (Or.inl rfl) (Nat.le_of_ble_eq_true rfl) ?_
  intro p e s m args below meth c QQ hx hb hml hown hts hK hret ls hl
  have hl : lv_has ls 5 [(0, .ref h), (1, .int (x))] := hl
  have hown : s.vm.findClass RX0 = some m.cls := hown
  have hin0 : ∀ w ∈ wsX00, w ∈ wsX0_orbit := fun w h => List.mem_cons_of_mem _ (List.mem_append_right _ h)
  have hl_added : (Cond.fieldLink RX0 9 "PermGroup" "added" "[I").before args s = true := hts _ (by decide +kernel)
  have hl_count : (Cond.fieldLink RX0 33 "PermGroup" "count" "I").before args s = true := hts _ (by decide +kernel)
  have hl_n : (Cond.fieldLink RX0 25 "PermGroup" "n" "I").before args s = true := hts _ (by decide +kernel)
  refine lv_iload_n hx hb dX0_orbit_0 rfl (lv_at hl 1 rfl) ?_
  refine lv_if_lt (tgt := 12) hx hb dX0_orbit_1 (by decide) (fun c_1 => ?_) (fun c_1 => ?_)
  ·
    refine lv_iconst (v := nI (0)) hx hb dX0_orbit_12 (by decide) ?_
    exact hret _ _ _ (by first | exact (if_pos c_1).symm | exact ((if_neg c_1).trans (if_neg c_9)).symm) dX0_orbit_13
  ·
    refine lv_iload_n hx hb dX0_orbit_4 rfl (lv_at hl 1 rfl) ?_
    refine lv_aload_n hx hb dX0_orbit_5 rfl (lv_at hl 0 rfl) ?_
    refine va_get (D := D) (ci := 0) (v := .int (nI (n))) (C := RX0) (T := TX0) (N := 7) hx hb hts hin0 hown hK hP 0 rfl rfl 0 (by decide) hl_n (fun _ h9 => h9) rfl dX0_orbit_6 ?_
    refine lv_icmp_lt (tgt := 14) hx hb dX0_orbit_9 (by decide) (fun c_9 => ?_) (fun c_9 => ?_)
    ·
      obtain ⟨X, hX, rfl⟩ := nb_ix c_1 c_9 (by omega)
      have hr0 : orbI ad n ct (nI X) = nI (obF ad n ct n 0 (1 * 2 ^ X)) := by rw [orbI, if_neg c_1, if_pos c_9, tn_nI (by omega)]
      refine lv_iconst (v := nI (1)) hx hb dX0_orbit_14 (by decide) ?_
      refine lv_iload_n hx hb dX0_orbit_15 rfl (lv_at hl 1 rfl) ?_
      refine lv_ishl hx hb dX0_orbit_16 ?_
      refine pu_tp (nb_shl _ (by omega)) ?_
      refine lv_istore_n (lv' := [(2, .int (nI (1 * 2 ^ X))), (0, .ref h), (1, .int (nI (X)))]) hx hb dX0_orbit_17 rfl hl (by decide) rfl (fun ls hl => ?_)
      refine lv_iconst (v := nI (0)) hx hb dX0_orbit_18 (by decide) ?_
      refine lv_istore_n (lv' := [(3, .int (nI (0))), (2, .int (nI (1 * 2 ^ X))), (0, .ref h), (1, .int (nI (X)))]) hx hb dX0_orbit_19 rfl hl (by decide) rfl (fun ls hl => ?_)
      have loop_20 : ∀ (j t r : Nat), (t + j = n) → (orbI ad n ct (nI X) = nI (obF ad n ct j t r)) → (r < 2 ^ 8) → ∀ (ls : Array Slot), lv_has ls 5 [(0, .ref h), (2, .int (nI (r))), (3, .int (nI (t)))] → W p l e ({ frames := 2, cells := 0, slots := 0, locals := 45 } : Room) s m args below meth c H [] 0 0 QQ (F0 m 20 ls []) := by
        intro j
        induction j with
        | zero =>
          intro t r hj hr hrl ls hl
          refine lv_iload_n hx hb dX0_orbit_20 rfl (lv_at hl 2 rfl) ?_
          refine lv_aload_n hx hb dX0_orbit_21 rfl (lv_at hl 0 rfl) ?_
          refine va_get (D := D) (ci := 0) (v := .int (nI (n))) (C := RX0) (T := TX0) (N := 7) hx hb hts hin0 hown hK hP 0 rfl rfl 0 (by decide) hl_n (fun _ h9 => h9) rfl dX0_orbit_22 ?_
          refine lv_icmp_ge (tgt := 67) hx hb dX0_orbit_25 (by decide) (fun c_25 => ?_) (fun c_25 => ?_)
          ·
            have c_25 := (nI_leI (by omega) (by omega)).mp c_25
            refine lv_iload_n hx hb dX0_orbit_67 rfl (lv_at hl 1 rfl) ?_
            exact hret _ _ _ (hr.symm) dX0_orbit_68
          ·
            have c_25 : ¬ _ := fun h9 => c_25 ((nI_leI (by omega) (by omega)).mpr h9)
            exfalso; omega
        | succ j ih_20 =>
          intro t r hj hr hrl ls hl
          refine lv_iload_n hx hb dX0_orbit_20 rfl (lv_at hl 2 rfl) ?_
          refine lv_aload_n hx hb dX0_orbit_21 rfl (lv_at hl 0 rfl) ?_
          refine va_get (D := D) (ci := 0) (v := .int (nI (n))) (C := RX0) (T := TX0) (N := 7) hx hb hts hin0 hown hK hP 0 rfl rfl 0 (by decide) hl_n (fun _ h9 => h9) rfl dX0_orbit_22 ?_
          refine lv_icmp_ge (tgt := 67) hx hb dX0_orbit_25 (by decide) (fun c_25 => ?_) (fun c_25 => ?_)
          ·
            have c_25 := (nI_leI (by omega) (by omega)).mp c_25
            exfalso; omega
          ·
            have c_25 : ¬ _ := fun h9 => c_25 ((nI_leI (by omega) (by omega)).mpr h9)
            refine lv_iconst (v := nI (0)) hx hb dX0_orbit_28 (by decide) ?_
            refine lv_istore (lv' := [(4, .int (nI (0))), (0, .ref h), (2, .int (nI (r))), (3, .int (nI (t)))]) hx hb dX0_orbit_29 hl (by decide) rfl (fun ls hl => ?_)
            have loop_31 : ∀ (j2 k z : Nat), (k + j2 = ct) → (obI ad n ct 0 r = obI ad n j2 k z) → (z < 2 ^ 8) → ∀ (ls : Array Slot), lv_has ls 5 [(0, .ref h), (2, .int (nI (z))), (3, .int (nI (t))), (4, .int (nI (k)))] → W p l e ({ frames := 2, cells := 0, slots := 0, locals := 45 } : Room) s m args below meth c H [] 0 0 QQ (F0 m 31 ls []) := by
              intro j2
              induction j2 with
              | zero =>
                intro k z hj2 hr2 hzl ls hl
                refine lv_iload hx hb dX0_orbit_31 (lv_at hl 3 rfl) ?_
                refine lv_aload_n hx hb dX0_orbit_33 rfl (lv_at hl 0 rfl) ?_
                refine va_get (D := D) (ci := 0) (v := .int (nI (ct))) (C := RX0) (T := TX0) (N := 7) hx hb hts hin0 hown hK hP 0 rfl rfl 2 (by decide) hl_count (fun _ h9 => h9) rfl dX0_orbit_34 ?_
                refine lv_icmp_ge (tgt := 61) hx hb dX0_orbit_37 (by decide) (fun c_37 => ?_) (fun c_37 => ?_)
                ·
                  have c_37 := (nI_leI (by omega) (by omega)).mp c_37
                  refine lv_iinc (v := nI (t + 1)) (lv' := [(3, .int (nI (t + 1))), (0, .ref h), (2, .int (nI (z))), (4, .int (nI (k)))]) hx hb dX0_orbit_61 hl (k := 2) rfl (nI_1 _) (by decide) rfl (fun ls hl => ?_)
                  refine lv_goto (tgt := 20) hx hb dX0_orbit_64 (by decide) ?_
                  exact ih_20 (t + 1) z (by omega) (by have hz : z = obI ad n ct 0 r := hr2.symm; rw [hz]; exact hr) hzl ls (lv_sub hl [1, 2, 0] rfl)
                ·
                  have c_37 : ¬ _ := fun h9 => c_37 ((nI_leI (by omega) (by omega)).mpr h9)
                  exfalso; omega
              | succ j2 ih_31 =>
                intro k z hj2 hr2 hzl ls hl
                refine lv_iload hx hb dX0_orbit_31 (lv_at hl 3 rfl) ?_
                refine lv_aload_n hx hb dX0_orbit_33 rfl (lv_at hl 0 rfl) ?_
                refine va_get (D := D) (ci := 0) (v := .int (nI (ct))) (C := RX0) (T := TX0) (N := 7) hx hb hts hin0 hown hK hP 0 rfl rfl 2 (by decide) hl_count (fun _ h9 => h9) rfl dX0_orbit_34 ?_
                refine lv_icmp_ge (tgt := 61) hx hb dX0_orbit_37 (by decide) (fun c_37 => ?_) (fun c_37 => ?_)
                ·
                  have c_37 := (nI_leI (by omega) (by omega)).mp c_37
                  exfalso; omega
                ·
                  have c_37 : ¬ _ := fun h9 => c_37 ((nI_leI (by omega) (by omega)).mpr h9)
                  refine lv_iload_n hx hb dX0_orbit_40 rfl (lv_at hl 1 rfl) ?_
                  refine lv_aload_n hx hb dX0_orbit_41 rfl (lv_at hl 0 rfl) ?_
                  refine lv_iload_n hx hb dX0_orbit_42 rfl (lv_at hl 1 rfl) ?_
                  refine lv_aload_n hx hb dX0_orbit_43 rfl (lv_at hl 0 rfl) ?_
                  refine va_get (D := D) (ci := 0) (v := .ref a) (C := RX0) (T := TX0) (N := 7) hx hb hts hin0 hown hK hP 0 rfl rfl 3 (by decide) hl_added (fun _ h9 => h9) rfl dX0_orbit_44 ?_
                  refine lv_iload hx hb dX0_orbit_47 (lv_at hl 3 rfl) ?_
                  refine va_iald hx hb hK hP 1 0 rfl rfl (vp_in_nI (by omega) (by omega)) dX0_orbit_49 ?_
                  refine pu_tp (nb_clamp (f := ad) (by omega)) ?_
                  refine pu_tp (z := nI (tn (ad k))) ((nI_tn _).symm) ?_
                  refine pu_V (As := [.int (nI (z)), .int (nI (tn (ad k)))]) (rest := [.int (nI (z))]) (b := h) ⟨hx, hb, hml, hown, hts⟩ (kX0_imagesOf hP hn (S := z) (P := tn (ad k)) (by omega) (tn_lt _)) (cwV 2 hts gX0_orbit_X0_imagesOf rfl rfl rfl eX0_imagesOf ⟨by decide, by decide⟩) (va_recv hK hP (ci := 0) (q0 := 0) rfl rfl) hK rfl hl.1 rfl (Nat.le_of_ble_eq_true rfl) dX0_orbit_50 ⟨Nat.zero_le _, Nat.zero_le _⟩ ?_
                  refine lv_ior hx hb dX0_orbit_53 ?_
                  refine pu_tp (nb_or _ _) ?_
                  refine lv_istore_n (lv' := [(2, .int (nI (z ||| (imF z (tn (ad k)) n 0 0)))), (0, .ref h), (3, .int (nI (t))), (4, .int (nI (k)))]) hx hb dX0_orbit_54 rfl hl (by decide) rfl (fun ls hl => ?_)
                  refine lv_iinc (v := nI (k + 1)) (lv' := [(4, .int (nI (k + 1))), (2, .int (nI (z ||| (imF z (tn (ad k)) n 0 0)))), (0, .ref h), (3, .int (nI (t)))]) hx hb dX0_orbit_55 hl (k := 3) rfl (nI_1 _) (by decide) rfl (fun ls hl => ?_)
                  refine lv_goto (tgt := 31) hx hb dX0_orbit_58 (by decide) ?_
                  exact ih_31 (k + 1) (z ||| imF z (tn (ad k)) n 0 0) (by omega) hr2 (Nat.or_lt_two_pow hzl (imF_lt _ _ _ _ _ (by decide))) ls (lv_sub hl [2, 1, 3, 0] rfl)
            exact loop_31 ct 0 r (by omega) rfl hrl ls (lv_sub hl [1, 2, 3, 0] rfl)
      exact loop_20 n 0 (1 * 2 ^ X) (by omega) hr0 (bd_pow (by omega)) ls (lv_sub hl [2, 1, 0] rfl)
    ·
      refine lv_iconst (v := nI (0)) hx hb dX0_orbit_12 (by decide) ?_
      exact hret _ _ _ (by first | exact (if_pos c_1).symm | exact ((if_neg c_1).trans (if_neg c_9)).symm) dX0_orbit_13
theorem eX0_fixing : yX0_fixing.cls = RX0 ∧ yX0_fixing.cls ≠ "java/lang/invoke/MethodHandle" ∧ yX0_fixing.cls ≠ "java/lang/invoke/VarHandle" ∧ (parseMethodDescriptor yX0_fixing.desc).map (fun d => d.parameters.length) = some 1 := by decide +kernel
set_option maxHeartbeats 4000000 in
set_option maxRecDepth 100000 in
theorem kX0_fixing (hP : va_P D vwCl (gW cI cG h a g f ra (nI n) (nI id) (nI ct) fc ad fl R) H) (hn : n ≤ 7) (hc : ct ≤ 12) {k : Int32} : pI l yX0_fixing wsX0_fixing ({ frames := 3, cells := 0, slots := 0, locals := 68 } : Room) [.ref h, .int (k)] D (gT cI cG cZ) H (fixI (R ct) n k) := by
  refine pI_ofW (cc := cX0_fixing) (maxL := 2) (ret := (some .int)) (by decide) rfl (Or.inl rfl) (Nat.le_of_ble_eq_true rfl) ?_
  intro p e s m args below meth c QQ hx hb hml hown hts hK hret ls hl
  have hl : lv_has ls 2 [(0, .ref h), (1, .int (k))] := hl
  have hown : s.vm.findClass RX0 = some m.cls := hown
  have hin0 : ∀ w ∈ wsX00, w ∈ wsX0_fixing := fun w h => List.mem_cons_of_mem _ (List.mem_append_right _ h)
  have hl_n : (Cond.fieldLink RX0 25 "PermGroup" "n" "I").before args s = true := hts _ (by decide +kernel)
  refine lv_iload_n hx hb dX0_fixing_0 rfl (lv_at hl 1 rfl) ?_
  refine lv_if_lt (tgt := 12) hx hb dX0_fixing_1 (by decide) (fun c_1 => ?_) (fun c_1 => ?_)
  ·
    refine lv_iconst (v := nI (0)) hx hb dX0_fixing_12 (by decide) ?_
    refine lv_goto (tgt := 21) hx hb dX0_fixing_13 (by decide) ?_
    exact hret _ _ _ (by first | exact (if_pos c_1).symm | exact ((if_neg c_1).trans (if_neg c_9)).symm) dX0_fixing_21
  ·
    refine lv_iload_n hx hb dX0_fixing_4 rfl (lv_at hl 1 rfl) ?_
    refine lv_aload_n hx hb dX0_fixing_5 rfl (lv_at hl 0 rfl) ?_
    refine va_get (D := D) (ci := 0) (v := .int (nI (n))) (C := RX0) (T := TX0) (N := 7) hx hb hts hin0 hown hK hP 0 rfl rfl 0 (by decide) hl_n (fun _ h9 => h9) rfl dX0_fixing_6 ?_
    refine lv_icmp_le (tgt := 16) hx hb dX0_fixing_9 (by decide) (fun c_9 => ?_) (fun c_9 => ?_)
    ·
      obtain ⟨X, hX, rfl⟩ := nb_ixle c_1 c_9 (by omega)
      refine lv_aload_n hx hb dX0_fixing_16 rfl (lv_at hl 0 rfl) ?_
      refine lv_iload_n hx hb dX0_fixing_17 rfl (lv_at hl 1 rfl) ?_
      refine pu_V (As := [.int (nI (X))]) (rest := []) (b := h) ⟨hx, hb, hml, hown, hts⟩ (kX0_fixersOfFirst hP hn hc (k := X) hX) (cwV 1 hts gX0_fixing_X0_fixersOfFirst rfl rfl rfl eX0_fixersOfFirst ⟨by decide, by decide⟩) (va_recv hK hP (ci := 0) (q0 := 0) rfl rfl) hK rfl hl.1 rfl (Nat.le_of_ble_eq_true rfl) dX0_fixing_18 ⟨Nat.zero_le _, Nat.zero_le _⟩ ?_
      exact hret _ _ _ (by rw [fixI, if_neg c_1, if_pos c_9, tn_nI (by omega)]) dX0_fixing_21
    ·
      refine lv_iconst (v := nI (0)) hx hb dX0_fixing_12 (by decide) ?_
      refine lv_goto (tgt := 21) hx hb dX0_fixing_13 (by decide) ?_
      exact hret _ _ _ (by first | exact (if_pos c_1).symm | exact ((if_neg c_1).trans (if_neg c_9)).symm) dX0_fixing_21
theorem eX0_even : yX0_even.cls = RX0 ∧ yX0_even.cls ≠ "java/lang/invoke/MethodHandle" ∧ yX0_even.cls ≠ "java/lang/invoke/VarHandle" ∧ (parseMethodDescriptor yX0_even.desc).map (fun d => d.parameters.length) = some 0 := by decide +kernel
set_option maxHeartbeats 4000000 in
set_option maxRecDepth 100000 in
theorem kX0_even (hP : va_P D vwCl (gW cI cG h a g f ra (nI n) (nI id) (nI ct) fc ad fl R) H) (hn : n ≤ 7) (hn1 : 1 ≤ n) (hc : ct ≤ 12) : pI l yX0_even wsX0_even ({ frames := 3, cells := 0, slots := 0, locals := 68 } : Room) [.ref h] D (gT cI cG cZ) H (nI (evF ad n (fx (R ct) n 0) ct 0)) := by
  refine pI_ofW (cc := cX0_even) (maxL := 3) (ret := (some .int)) (by decide) rfl (Or.inl rfl) (Nat.le_of_ble_eq_true rfl) ?_
  intro p e s m args below meth c QQ hx hb hml hown hts hK hret ls hl
  have hl : lv_has ls 3 [(0, .ref h)] := hl
  have hown : s.vm.findClass RX0 = some m.cls := hown
  have hin0 : ∀ w ∈ wsX00, w ∈ wsX0_even := fun w h => List.mem_cons_of_mem _ (List.mem_append_right _ h)
  have hl_added : (Cond.fieldLink RX0 9 "PermGroup" "added" "[I").before args s = true := hts _ (by decide +kernel)
  have hl_count : (Cond.fieldLink RX0 33 "PermGroup" "count" "I").before args s = true := hts _ (by decide +kernel)
  refine lv_aload_n hx hb dX0_even_0 rfl (lv_at hl 0 rfl) ?_
  refine lv_iconst (v := nI (0)) hx hb dX0_even_1 (by decide) ?_
  refine pu_V (As := [.int (nI (0))]) (rest := []) (b := h) ⟨hx, hb, hml, hown, hts⟩ (kX0_fixersOfFirst hP hn hc (k := 0) (by omega)) (cwV 1 hts gX0_even_X0_fixersOfFirst rfl rfl rfl eX0_fixersOfFirst ⟨by decide, by decide⟩) (va_recv hK hP (ci := 0) (q0 := 0) rfl rfl) hK rfl hl.1 rfl (Nat.le_of_ble_eq_true rfl) dX0_even_2 ⟨Nat.zero_le _, Nat.zero_le _⟩ ?_
  refine lv_istore_n (lv' := [(1, .int (nI (fx (R ct) n (0)))), (0, .ref h)]) hx hb dX0_even_5 rfl hl (by decide) rfl (fun ls hl => ?_)
  refine lv_iconst (v := nI (0)) hx hb dX0_even_6 (by decide) ?_
  refine lv_istore_n (lv' := [(2, .int (nI (0))), (1, .int (nI (fx (R ct) n (0)))), (0, .ref h)]) hx hb dX0_even_7 rfl hl (by decide) rfl (fun ls hl => ?_)
  have loop_8 : ∀ (j k : Nat), (k + j = ct) → (nI (evF ad n (fx (R ct) n 0) ct 0) = nI (evF ad n (fx (R ct) n 0) j k)) → ∀ (ls : Array Slot), lv_has ls 3 [(0, .ref h), (1, .int (nI (fx (R ct) n (0)))), (2, .int (nI (k)))] → W p l e ({ frames := 3, cells := 0, slots := 0, locals := 68 } : Room) s m args below meth c H [] 0 0 QQ (F0 m 8 ls []) := by
    intro j
    induction j with
    | zero =>
      intro k hj hr ls hl
      refine lv_iload_n hx hb dX0_even_8 rfl (lv_at hl 2 rfl) ?_
      refine lv_aload_n hx hb dX0_even_9 rfl (lv_at hl 0 rfl) ?_
      refine va_get (D := D) (ci := 0) (v := .int (nI (ct))) (C := RX0) (T := TX0) (N := 7) hx hb hts hin0 hown hK hP 0 rfl rfl 2 (by decide) hl_count (fun _ h9 => h9) rfl dX0_even_10 ?_
      refine lv_icmp_ge (tgt := 39) hx hb dX0_even_13 (by decide) (fun c_13 => ?_) (fun c_13 => ?_)
      ·
        have c_13 := (nI_leI (by omega) (by omega)).mp c_13
        refine lv_iload_n hx hb dX0_even_39 rfl (lv_at hl 1 rfl) ?_
        exact hret _ _ _ (hr.symm) dX0_even_40
      ·
        have c_13 : ¬ _ := fun h9 => c_13 ((nI_leI (by omega) (by omega)).mpr h9)
        exfalso; omega
    | succ j ih_8 =>
      intro k hj hr ls hl
      refine lv_iload_n hx hb dX0_even_8 rfl (lv_at hl 2 rfl) ?_
      refine lv_aload_n hx hb dX0_even_9 rfl (lv_at hl 0 rfl) ?_
      refine va_get (D := D) (ci := 0) (v := .int (nI (ct))) (C := RX0) (T := TX0) (N := 7) hx hb hts hin0 hown hK hP 0 rfl rfl 2 (by decide) hl_count (fun _ h9 => h9) rfl dX0_even_10 ?_
      refine lv_icmp_ge (tgt := 39) hx hb dX0_even_13 (by decide) (fun c_13 => ?_) (fun c_13 => ?_)
      ·
        have c_13 := (nI_leI (by omega) (by omega)).mp c_13
        exfalso; omega
      ·
        have c_13 : ¬ _ := fun h9 => c_13 ((nI_leI (by omega) (by omega)).mpr h9)
        refine lv_aload_n hx hb dX0_even_16 rfl (lv_at hl 0 rfl) ?_
        refine lv_aload_n hx hb dX0_even_17 rfl (lv_at hl 0 rfl) ?_
        refine va_get (D := D) (ci := 0) (v := .ref a) (C := RX0) (T := TX0) (N := 7) hx hb hts hin0 hown hK hP 0 rfl rfl 3 (by decide) hl_added (fun _ h9 => h9) rfl dX0_even_18 ?_
        refine lv_iload_n hx hb dX0_even_21 rfl (lv_at hl 2 rfl) ?_
        refine va_iald hx hb hK hP 1 0 rfl rfl (vp_in_nI (by omega) (by omega)) dX0_even_22 ?_
        refine pu_tp (nb_clamp (f := ad) (by omega)) ?_
        refine pu_tp (z := nI (tn (ad k))) ((nI_tn _).symm) ?_
        refine pu_V (As := [.int (nI (tn (ad k)))]) (rest := []) (b := h) ⟨hx, hb, hml, hown, hts⟩ (kX0_isOdd hP hn (P := tn (ad k)) (tn_lt _) hn1) (cwV 1 hts gX0_even_X0_isOdd rfl rfl rfl eX0_isOdd ⟨by decide, by decide⟩) (va_recv hK hP (ci := 0) (q0 := 0) rfl rfl) hK rfl hl.1 rfl (Nat.le_of_ble_eq_true rfl) dX0_even_23 ⟨Nat.zero_le _, Nat.zero_le _⟩ ?_
        refine lv_if_eq (tgt := 33) hx hb dX0_even_26 (by decide) (fun c_26 => ?_) (fun c_26 => ?_)
        ·
          have c_26 := b01_f c_26
          refine lv_iinc (v := nI (k + 1)) (lv' := [(2, .int (nI (k + 1))), (0, .ref h), (1, .int (nI (fx (R ct) n (0))))]) hx hb dX0_even_33 hl (k := 2) rfl (nI_1 _) (by decide) rfl (fun ls hl => ?_)
          refine lv_goto (tgt := 8) hx hb dX0_even_36 (by decide) ?_
          exact ih_8 (k + 1) (by omega) (hr.trans (congrArg nI (if_neg (by rw [c_26]; decide)))) ls (lv_sub hl [1, 2, 0] rfl)
        ·
          have c_26 := b01_t c_26
          refine lv_iload_n hx hb dX0_even_29 rfl (lv_at hl 1 rfl) ?_
          refine lv_iconst (v := nI (2)) hx hb dX0_even_30 (by decide) ?_
          refine lv_idiv hx hb dX0_even_31 (nI_ne0 (by omega) (by omega)) ?_
          refine pu_tp (pk_div (Nat.lt_trans (fx_lt _ hn _) (by decide)) (by omega) (by omega)) ?_
          exact hret _ _ _ ((hr.trans (congrArg nI (if_pos c_26))).symm) dX0_even_32
  exact loop_8 ct 0 (by omega) rfl ls (lv_sub hl [2, 1, 0] rfl)
end CXB
end
section
/-! ===== what the reference's methods compute, loop by loop ===== -/
def fac : Nat → Nat
  | 0 => 1 | 1 => 1 | 2 => 2 | 3 => 6 | 4 => 24 | 5 => 120 | 6 => 720 | 7 => 5040 | _ => 0
def facI : Nat → Int32
  | 0 => 1 | 1 => 1 | 2 => 2 | 3 => 6 | 4 => 24 | 5 => 120 | 6 => 720 | 7 => 5040 | _ => 0
theorem facI_eq {i : Nat} (h : i ≤ 7) : facI i = nI (fac i) := by
  match i, h with
  | 0, _ => rfl
  | 1, _ => rfl
  | 2, _ => rfl
  | 3, _ => rfl
  | 4, _ => rfl
  | 5, _ => rfl
  | 6, _ => rfl
  | 7, _ => rfl
theorem fac_bd : ∀ i, i ≤ 7 → 0 < fac i ∧ fac i ≤ 5040 := by decide
def frI (P z : Nat) : Nat → Nat → Bool → Bool
  | 0, _, u => u
  | k + 1, j, u => frI P z k (j + 1) (if im P j = z then true else u)
def frF (P i : Nat) : Nat → Nat → Nat → Nat
  | 0, _, c => c
  | k + 1, z, c => frF P i k (z + 1) (if frI P z i 0 false = true then c else c + 1)
def fr (P i y : Nat) : Nat := frF P i y 0 0
def nuF (n P : Nat) : Nat → Nat → Nat → Nat
  | 0, _, a => a
  | k + 1, i, a => nuF n P k (i + 1) (a + fr P i (im P i) * fac (n - 1 - i))
def nu (n P : Nat) : Nat := nuF n P n 0 0
def usF (P y : Nat) : Nat → Nat → Bool
  | 0, _ => false
  | k + 1, j => if im P j = y then true else usF P y k (j + 1)
def us (P i y : Nat) : Bool := usF P y i 0
def peY (P i pl : Nat) : Nat → Nat → Nat
  | 0, y => y
  | k + 1, y => if fr P i y = pl ∧ us P i y = false then y else peY P i pl k (y + 1)
def peF (n : Nat) : Nat → Nat → Nat → Nat → Nat
  | 0, _, p, _ => p
  | k + 1, i, p, r => peF n k (i + 1) (p ||| peY p i (r / fac (n - 1 - i)) 7 0 * 2 ^ (3 * i)) (r % fac (n - 1 - i))
def pe (n m : Nat) : Nat := peF n n 0 0 m
def blF (iv : Nat → Int32) : Nat → Nat → Nat → Nat
  | 0, _, c => c
  | k + 1, m, c => blF iv k (m + 1) (if iv m = 0 then c else c + 1)
def bl (iv : Nat → Int32) (k : Nat) : Nat := blF iv k 0 0
theorem frI_t {P z k j : Nat} {u : Bool} (c : im P j = z) : frI P z (k + 1) j u = frI P z k (j + 1) true := by show frI P z k (j + 1) (if im P j = z then true else u) = _; rw [if_pos c]
theorem frI_f {P z k j : Nat} {u : Bool} (c : ¬ im P j = z) : frI P z (k + 1) j u = frI P z k (j + 1) u := by show frI P z k (j + 1) (if im P j = z then true else u) = _; rw [if_neg c]
theorem frF_t {P i k z c : Nat} (h : frI P z i 0 false = true) : frF P i (k + 1) z c = frF P i k (z + 1) c := by show frF P i k (z + 1) (if frI P z i 0 false = true then c else c + 1) = _; rw [if_pos h]
theorem frF_f {P i k z c : Nat} (h : frI P z i 0 false = false) : frF P i (k + 1) z c = frF P i k (z + 1) (c + 1) := by show frF P i k (z + 1) (if frI P z i 0 false = true then c else c + 1) = _; rw [if_neg (by rw [h]; decide)]
theorem frF_le (P i : Nat) : ∀ k z c, frF P i k z c ≤ c + k
  | 0, _, _ => Nat.le_refl _
  | k + 1, z, c => by
      have h := frF_le P i k (z + 1) (if frI P z i 0 false = true then c else c + 1)
      show frF P i k (z + 1) (if frI P z i 0 false = true then c else c + 1) ≤ c + (k + 1)
      split at h <;> rename_i q
      · rw [if_pos q]; omega
      · rw [if_neg q]; omega
theorem fr_le (P i y : Nat) : fr P i y ≤ y := by have := frF_le P i y 0 0; unfold fr; omega
theorem peY_hit {P i pl k y : Nat} (c : fr P i y = pl) (d : us P i y = false) : peY P i pl (k + 1) y = y := if_pos ⟨c, d⟩
theorem peY_n1 {P i pl k y : Nat} (c : ¬ fr P i y = pl) : peY P i pl (k + 1) y = peY P i pl k (y + 1) := if_neg (fun q => c q.1)
theorem peY_n2 {P i pl k y : Nat} (d : us P i y = true) : peY P i pl (k + 1) y = peY P i pl k (y + 1) := if_neg (fun q => by rw [d] at q; exact absurd q.2 (by decide))
theorem peY_le (P i pl : Nat) : ∀ k y, y + k = 7 → peY P i pl k y ≤ 7
  | 0, y, h => by show y ≤ 7; omega
  | k + 1, y, h => by
      show (if fr P i y = pl ∧ us P i y = false then y else peY P i pl k (y + 1)) ≤ 7
      split
      · omega
      · exact peY_le P i pl k (y + 1) (by omega)
theorem peF_lt (n : Nat) : ∀ k i p r, i + k ≤ 8 → p < 2 ^ 24 → peF n k i p r < 2 ^ 24
  | 0, _, _, _, _, h => h
  | k + 1, i, p, r, h1, h => peF_lt n k (i + 1) _ _ (by omega) (Nat.or_lt_two_pow h (bd_mul (Nat.lt_succ_of_le (peY_le _ _ _ 7 0 rfl)) (by omega) rfl))
theorem pe_lt {n : Nat} (hn : n ≤ 7) (m : Nat) : pe n m < 2 ^ 24 := peF_lt n n 0 0 m (by omega) (by decide)
theorem blF_y {iv : Nat → Int32} {k m c : Nat} (h : ¬ iv m = 0) : blF iv (k + 1) m c = blF iv k (m + 1) (c + 1) := by show blF iv k (m + 1) (if iv m = 0 then c else c + 1) = _; rw [if_neg h]
theorem blF_n {iv : Nat → Int32} {k m c : Nat} (h : iv m = 0) : blF iv (k + 1) m c = blF iv k (m + 1) c := by show blF iv k (m + 1) (if iv m = 0 then c else c + 1) = _; rw [if_pos h]
theorem blF_le (iv : Nat → Int32) : ∀ k m c, blF iv k m c ≤ c + k
  | 0, _, _ => Nat.le_refl _
  | k + 1, m, c => by
      have h := blF_le iv k (m + 1) (if iv m = 0 then c else c + 1)
      show blF iv k (m + 1) (if iv m = 0 then c else c + 1) ≤ c + (k + 1)
      split at h <;> rename_i q
      · rw [if_pos q]; omega
      · rw [if_neg q]; omega
theorem bl_le (iv : Nat → Int32) (k : Nat) : bl iv k ≤ k := by have := blF_le iv k 0 0; unfold bl; omega
theorem isP_big {n P : Nat} (hn : n ≤ 7) (h : 2 ^ 31 ≤ P) : isP n P = false := isP_f1 (fun q => by
  have h1 : P < 2 ^ (3 * n) := by
    rcases Nat.lt_or_ge P (2 ^ (3 * n)) with h2 | h2
    · exact h2
    · have := Nat.div_pos h2 (Nat.two_pow_pos (3 * n)); omega
  have h3 : 2 ^ (3 * n) ≤ 2 ^ 21 := Nat.pow_le_pow_right (by decide) (by omega)
  have h4 : (2 : Nat) ^ 21 < 2 ^ 31 := by decide
  omega)
theorem nb_nn {P : Nat} (hp : P < 2 ^ 32) (h : ¬ nI P < 0) : P < 2 ^ 31 := by
  rcases Nat.lt_or_ge P (2 ^ 31) with q | q
  · exact q
  · exact absurd (nb_neg q hp) h
theorem nb_ng {P : Nat} (hp : P < 2 ^ 32) (h : nI P < 0) : 2 ^ 31 ≤ P := by
  rcases Nat.lt_or_ge P (2 ^ 31) with q | q
  · exact absurd h (nI_pos q)
  · exact q
theorem isP_lt {n P : Nat} (hn : n ≤ 7) (h : isP n P = true) : P < 2 ^ 24 := by
  have h0 := (isP_iff.mp h).1
  have h1 : P < 2 ^ (3 * n) := by
    rcases Nat.lt_or_ge P (2 ^ (3 * n)) with h2 | h2
    · exact h2
    · have := Nat.div_pos h2 (Nat.two_pow_pos (3 * n)); omega
  exact Nat.lt_of_lt_of_le h1 (Nat.pow_le_pow_right (by decide) (by omega))
/-! ===== the reference's cells ===== -/
abbrev mW (cI cZ : ClassId) (h fa ge inn wa : Nat) (ct n th : Int32) (gn iv wv : Nat → Int32) : va_W :=
  [(h, .inr (1, [.ref fa, .ref ge, .int ct, .int n, .ref inn, .ref wa, .int th])), (fa, .inl (cI, 8, .inl facI)), (ge, .inl (cI, 12, .inl gn)), (inn, .inl (cZ, 5040, .inl iv)), (wa, .inl (cI, 5040, .inl wv))]
end
section
section CXC
variable {l : Launch} {D : va_G} {cI cG cZ : ClassId} {h fa ge inn wa : Nat} {ct n : Nat} {th : Int32} {gn iv wv : Nat → Int32} {H : Heap}
theorem eX1_image : yX1_image.cls ≠ "java/lang/invoke/MethodHandle" ∧ yX1_image.cls ≠ "java/lang/invoke/VarHandle" ∧ (parseMethodDescriptor yX1_image.desc).map (fun d => d.parameters.length) = some 2 := by decide +kernel
set_option maxHeartbeats 4000000 in
set_option maxRecDepth 100000 in
theorem kX1_image {P i : Nat} (hp : P < 2 ^ 31) (hi : i ≤ 10) : pI l yX1_image wsX1_image ({ frames := 0, cells := 0, slots := 0, locals := 0 } : Room) [.int (nI (P)), .int (nI (i))] D (gT cI cG cZ) H (nI (im P i)) := by
  refine pI_ofW (cc := cX1_image) (maxL := 2) (ret := (some .int)) (by decide) rfl (Or.inl rfl) (Nat.le_of_ble_eq_true rfl) ?_
  intro p e s m args below meth c QQ hx hb hml hown hts hK hret ls hl
  have hl : lv_has ls 2 [(0, .int (nI (P))), (1, .int (nI (i)))] := hl
  have hown : s.vm.findClass RX1 = some m.cls := hown
  refine lv_iload_n hx hb dX1_image_0 rfl (lv_at hl 0 rfl) ?_
  refine lv_iconst (v := nI (3)) hx hb dX1_image_1 (by decide) ?_
  refine lv_iload_n hx hb dX1_image_2 rfl (lv_at hl 1 rfl) ?_
  refine lv_imul hx hb dX1_image_3 ?_
  refine pu_tp (pk_mul _ _) ?_
  refine lv_ishr hx hb dX1_image_4 ?_
  refine pu_tp (nb_shr (by omega) (by omega)) ?_
  refine lv_bipush (v := nI (7)) hx hb dX1_image_5 (by decide) ?_
  refine lv_iand hx hb dX1_image_7 ?_
  refine pu_tp (nb_and7 _) ?_
  exact hret _ _ _ (rfl) dX1_image_8
theorem eX1_isPermutation : yX1_isPermutation.cls = RX1 ∧ yX1_isPermutation.cls ≠ "java/lang/invoke/MethodHandle" ∧ yX1_isPermutation.cls ≠ "java/lang/invoke/VarHandle" ∧ (parseMethodDescriptor yX1_isPermutation.desc).map (fun d => d.parameters.length) = some 1 := by decide +kernel
set_option maxHeartbeats 4000000 in
set_option maxRecDepth 100000 in
theorem kX1_isPermutation (hP : va_P D vwCl (mW cI cZ h fa ge inn wa (nI ct) (nI n) th gn iv wv) H) (hn : n ≤ 7) {P : Nat} (hp : P < 2 ^ 32) : pI l yX1_isPermutation wsX1_isPermutation ({ frames := 1, cells := 0, slots := 0, locals := 21 } : Room) [.ref h, .int (nI P)] D (gT cI cG cZ) H (b01 (isP n P)) := by
  refine pI_ofW (cc := cX1_isPermutation) (maxL := 4) (ret := (some .boolean)) (by decide) rfl (Or.inr ⟨rfl, b01_or _⟩) (Nat.le_of_ble_eq_true rfl) ?_
  intro p e s m args below meth c QQ hx hb hml hown hts hK hret ls hl
  have hl : lv_has ls 4 [(0, .ref h), (1, .int (nI P))] := hl
  have hown : s.vm.findClass RX1 = some m.cls := hown
  have hin0 : ∀ w ∈ wsX10, w ∈ wsX1_isPermutation := fun w h => List.mem_cons_of_mem _ (List.mem_append_right _ h)
  have hl_n : (Cond.fieldLink RX1 23 "PermGroupModel" "n" "I").before args s = true := hts _ (by decide +kernel)
  refine lv_iload_n hx hb dX1_isPermutation_0 rfl (lv_at hl 1 rfl) ?_
  refine lv_if_lt (tgt := 15) hx hb dX1_isPermutation_1 (by decide) (fun c_1 => ?_) (fun c_1 => ?_)
  ·
    refine lv_iconst (v := nI (0)) hx hb dX1_isPermutation_15 (by decide) ?_
    exact hret _ _ _ (by first | (rw [isP_big hn (nb_ng hp c_1)]; rfl) | (rw [isP_f1 c_12]; rfl)) dX1_isPermutation_16
  ·
    have hp31 := nb_nn hp c_1
    refine lv_iload_n hx hb dX1_isPermutation_4 rfl (lv_at hl 1 rfl) ?_
    refine lv_iconst (v := nI (3)) hx hb dX1_isPermutation_5 (by decide) ?_
    refine lv_aload_n hx hb dX1_isPermutation_6 rfl (lv_at hl 0 rfl) ?_
    refine va_get (D := D) (ci := 1) (v := .int (nI (n))) (C := RX1) (T := TX1) (N := 7) hx hb hts hin0 hown hK hP 0 rfl rfl 3 (by decide) hl_n (fun _ h9 => h9) rfl dX1_isPermutation_7 ?_
    refine lv_imul hx hb dX1_isPermutation_10 ?_
    refine pu_tp (pk_mul _ _) ?_
    refine lv_ishr hx hb dX1_isPermutation_11 ?_
    refine pu_tp (nb_shr (by omega) (by omega)) ?_
    refine lv_if_eq (tgt := 17) hx hb dX1_isPermutation_12 (by decide) (fun c_12 => ?_) (fun c_12 => ?_)
    ·
      have c_12 := (nb_eq0 (bb_div P n hn hp)).mp c_12
      refine lv_iconst (v := nI (0)) hx hb dX1_isPermutation_17 (by decide) ?_
      refine lv_istore_n (lv' := [(2, .int (nI (0))), (0, .ref h), (1, .int (nI (P)))]) hx hb dX1_isPermutation_18 rfl hl (by decide) rfl (fun ls hl => ?_)
      refine lv_iconst (v := nI (0)) hx hb dX1_isPermutation_19 (by decide) ?_
      refine lv_istore_n (lv' := [(3, .int (nI (0))), (2, .int (nI (0))), (0, .ref h), (1, .int (nI (P)))]) hx hb dX1_isPermutation_20 rfl hl (by decide) rfl (fun ls hl => ?_)
      have loop_21 : ∀ (k i x : Nat), (i + k = n) → (mkF P n 0 0 = mkF P k i x) → (x < 2 ^ 8) → ∀ (ls : Array Slot), lv_has ls 4 [(0, .ref h), (1, .int (nI (P))), (2, .int (nI (x))), (3, .int (nI (i)))] → W p l e ({ frames := 1, cells := 0, slots := 0, locals := 21 } : Room) s m args below meth c H [] 0 0 QQ (F0 m 21 ls []) := by
        intro k
        induction k with
        | zero =>
          intro i x hk hr hxl ls hl
          refine lv_iload_n hx hb dX1_isPermutation_21 rfl (lv_at hl 3 rfl) ?_
          refine lv_aload_n hx hb dX1_isPermutation_22 rfl (lv_at hl 0 rfl) ?_
          refine va_get (D := D) (ci := 1) (v := .int (nI (n))) (C := RX1) (T := TX1) (N := 7) hx hb hts hin0 hown hK hP 0 rfl rfl 3 (by decide) hl_n (fun _ h9 => h9) rfl dX1_isPermutation_23 ?_
          refine lv_icmp_ge (tgt := 45) hx hb dX1_isPermutation_26 (by decide) (fun c_26 => ?_) (fun c_26 => ?_)
          ·
            have c_26 := (nI_leI (by omega) (by omega)).mp c_26
            refine lv_iload_n hx hb dX1_isPermutation_45 rfl (lv_at hl 2 rfl) ?_
            refine lv_iconst (v := nI (1)) hx hb dX1_isPermutation_46 (by decide) ?_
            refine lv_aload_n hx hb dX1_isPermutation_47 rfl (lv_at hl 0 rfl) ?_
            refine va_get (D := D) (ci := 1) (v := .int (nI (n))) (C := RX1) (T := TX1) (N := 7) hx hb hts hin0 hown hK hP 0 rfl rfl 3 (by decide) hl_n (fun _ h9 => h9) rfl dX1_isPermutation_48 ?_
            refine lv_ishl hx hb dX1_isPermutation_51 ?_
            refine pu_tp (nb_shl _ (by omega)) ?_
            refine lv_iconst (v := nI (1)) hx hb dX1_isPermutation_52 (by decide) ?_
            refine lv_isub hx hb dX1_isPermutation_53 ?_
            refine pu_tp (pk_sub (by have := Nat.two_pow_pos n; omega)) ?_
            refine lv_icmp_ne (tgt := 61) hx hb dX1_isPermutation_54 (by decide) (fun c_54 => ?_) (fun c_54 => ?_)
            ·
              have c_54 : ¬ _ := fun h9 => c_54 ((nb_eqI (by omega) (by have := bd_pow hn; omega)).mpr h9)
              refine lv_iconst (v := nI (0)) hx hb dX1_isPermutation_61 (by decide) ?_
              exact hret _ _ _ (by rw [isP_f2 (fun q => c_54 (hr.symm.trans q))]; rfl) dX1_isPermutation_62
            ·
              have c_54 := (nb_eqI (by omega) (by have := bd_pow hn; omega)).mp c_54
              refine lv_iconst (v := nI (1)) hx hb dX1_isPermutation_57 (by decide) ?_
              refine lv_goto (tgt := 62) hx hb dX1_isPermutation_58 (by decide) ?_
              exact hret _ _ _ (by rw [isP_t c_12 (hr.trans c_54)]; rfl) dX1_isPermutation_62
          ·
            have c_26 : ¬ _ := fun h9 => c_26 ((nI_leI (by omega) (by omega)).mpr h9)
            exfalso; omega
        | succ k ih_21 =>
          intro i x hk hr hxl ls hl
          refine lv_iload_n hx hb dX1_isPermutation_21 rfl (lv_at hl 3 rfl) ?_
          refine lv_aload_n hx hb dX1_isPermutation_22 rfl (lv_at hl 0 rfl) ?_
          refine va_get (D := D) (ci := 1) (v := .int (nI (n))) (C := RX1) (T := TX1) (N := 7) hx hb hts hin0 hown hK hP 0 rfl rfl 3 (by decide) hl_n (fun _ h9 => h9) rfl dX1_isPermutation_23 ?_
          refine lv_icmp_ge (tgt := 45) hx hb dX1_isPermutation_26 (by decide) (fun c_26 => ?_) (fun c_26 => ?_)
          ·
            have c_26 := (nI_leI (by omega) (by omega)).mp c_26
            exfalso; omega
          ·
            have c_26 : ¬ _ := fun h9 => c_26 ((nI_leI (by omega) (by omega)).mpr h9)
            refine lv_iload_n hx hb dX1_isPermutation_29 rfl (lv_at hl 2 rfl) ?_
            refine lv_iconst (v := nI (1)) hx hb dX1_isPermutation_30 (by decide) ?_
            refine lv_iload_n hx hb dX1_isPermutation_31 rfl (lv_at hl 1 rfl) ?_
            refine lv_iload_n hx hb dX1_isPermutation_32 rfl (lv_at hl 3 rfl) ?_
            refine pu_S (As := [.int (nI (P)), .int (nI (i))]) (rest := [.int (nI (1)), .int (nI (x))]) ⟨hx, hb, hml, hown, hts⟩ (kX1_image (P := P) (i := i) (by omega) (by omega)) (va_cwS 2 hts gX1_isPermutation_X1_image rfl rfl rfl eX1_image ⟨by decide, by decide⟩) hK rfl hl.1 rfl (Nat.le_of_ble_eq_true rfl) dX1_isPermutation_33 ⟨Nat.zero_le _, Nat.zero_le _⟩ ?_
            refine lv_ishl hx hb dX1_isPermutation_36 ?_
            refine pu_tp (nb_shl _ (by have := im_le P i; omega)) ?_
            refine lv_ior hx hb dX1_isPermutation_37 ?_
            refine pu_tp (nb_or _ _) ?_
            refine lv_istore_n (lv' := [(2, .int (nI (x ||| (1 * 2 ^ (im (P) (i)))))), (0, .ref h), (1, .int (nI (P))), (3, .int (nI (i)))]) hx hb dX1_isPermutation_38 rfl hl (by decide) rfl (fun ls hl => ?_)
            refine lv_iinc (v := nI (i + 1)) (lv' := [(3, .int (nI (i + 1))), (2, .int (nI (x ||| (1 * 2 ^ (im (P) (i)))))), (0, .ref h), (1, .int (nI (P)))]) hx hb dX1_isPermutation_39 hl (k := 3) rfl (nI_1 _) (by decide) rfl (fun ls hl => ?_)
            refine lv_goto (tgt := 21) hx hb dX1_isPermutation_42 (by decide) ?_
            exact ih_21 (i + 1) (x ||| 1 * 2 ^ (im P i)) (by omega) hr (Nat.or_lt_two_pow hxl (bd_pow (im_le _ _))) ls (lv_sub hl [2, 3, 1, 0] rfl)
      exact loop_21 n 0 0 (by omega) rfl (by decide) ls (lv_sub hl [2, 3, 1, 0] rfl)
    ·
      have c_12 : ¬ _ := fun h9 => c_12 ((nb_eq0 (bb_div P n hn hp)).mpr h9)
      refine lv_iconst (v := nI (0)) hx hb dX1_isPermutation_15 (by decide) ?_
      exact hret _ _ _ (by first | (rw [isP_big hn (nb_ng hp c_1)]; rfl) | (rw [isP_f1 c_12]; rfl)) dX1_isPermutation_16
theorem eX1_times : yX1_times.cls = RX1 ∧ yX1_times.cls ≠ "java/lang/invoke/MethodHandle" ∧ yX1_times.cls ≠ "java/lang/invoke/VarHandle" ∧ (parseMethodDescriptor yX1_times.desc).map (fun d => d.parameters.length) = some 2 := by decide +kernel
set_option maxHeartbeats 4000000 in
set_option maxRecDepth 100000 in
theorem kX1_times (hP : va_P D vwCl (mW cI cZ h fa ge inn wa (nI ct) (nI n) th gn iv wv) H) (hn : n ≤ 7) {P Q : Nat} (hp : P < 2 ^ 31) (hq : Q < 2 ^ 31) : pI l yX1_times wsX1_times ({ frames := 1, cells := 0, slots := 0, locals := 21 } : Room) [.ref h, .int (nI (P)), .int (nI (Q))] D (gT cI cG cZ) H (nI (tm n P Q)) := by
  refine pI_ofW (cc := cX1_times) (maxL := 5) (ret := (some .int)) (by decide) rfl (Or.inl rfl) (Nat.le_of_ble_eq_true rfl) ?_
  intro p e s m args below meth c QQ hx hb hml hown hts hK hret ls hl
  have hl : lv_has ls 5 [(0, .ref h), (1, .int (nI (P))), (2, .int (nI (Q)))] := hl
  have hown : s.vm.findClass RX1 = some m.cls := hown
  have hin0 : ∀ w ∈ wsX10, w ∈ wsX1_times := fun w h => List.mem_cons_of_mem _ (List.mem_append_right _ h)
  have hl_n : (Cond.fieldLink RX1 23 "PermGroupModel" "n" "I").before args s = true := hts _ (by decide +kernel)
  refine lv_iconst (v := nI (0)) hx hb dX1_times_0 (by decide) ?_
  refine lv_istore_n (lv' := [(3, .int (nI (0))), (0, .ref h), (1, .int (nI (P))), (2, .int (nI (Q)))]) hx hb dX1_times_1 rfl hl (by decide) rfl (fun ls hl => ?_)
  refine lv_iconst (v := nI (0)) hx hb dX1_times_2 (by decide) ?_
  refine lv_istore (lv' := [(4, .int (nI (0))), (3, .int (nI (0))), (0, .ref h), (1, .int (nI (P))), (2, .int (nI (Q)))]) hx hb dX1_times_3 hl (by decide) rfl (fun ls hl => ?_)
  have loop_5 : ∀ (k i x : Nat), (i + k = n) → (nI (tm n P Q) = nI (cpF P Q k i x)) → ∀ (ls : Array Slot), lv_has ls 5 [(0, .ref h), (1, .int (nI (P))), (2, .int (nI (Q))), (3, .int (nI (x))), (4, .int (nI (i)))] → W p l e ({ frames := 1, cells := 0, slots := 0, locals := 21 } : Room) s m args below meth c H [] 0 0 QQ (F0 m 5 ls []) := by
    intro k
    induction k with
    | zero =>
      intro i x hk hr ls hl
      refine lv_iload hx hb dX1_times_5 (lv_at hl 4 rfl) ?_
      refine lv_aload_n hx hb dX1_times_7 rfl (lv_at hl 0 rfl) ?_
      refine va_get (D := D) (ci := 1) (v := .int (nI (n))) (C := RX1) (T := TX1) (N := 7) hx hb hts hin0 hown hK hP 0 rfl rfl 3 (by decide) hl_n (fun _ h9 => h9) rfl dX1_times_8 ?_
      refine lv_icmp_ge (tgt := 38) hx hb dX1_times_11 (by decide) (fun c_11 => ?_) (fun c_11 => ?_)
      ·
        have c_11 := (nI_leI (by omega) (by omega)).mp c_11
        refine lv_iload_n hx hb dX1_times_38 rfl (lv_at hl 3 rfl) ?_
        exact hret _ _ _ (hr.symm) dX1_times_39
      ·
        have c_11 : ¬ _ := fun h9 => c_11 ((nI_leI (by omega) (by omega)).mpr h9)
        exfalso; omega
    | succ k ih_5 =>
      intro i x hk hr ls hl
      refine lv_iload hx hb dX1_times_5 (lv_at hl 4 rfl) ?_
      refine lv_aload_n hx hb dX1_times_7 rfl (lv_at hl 0 rfl) ?_
      refine va_get (D := D) (ci := 1) (v := .int (nI (n))) (C := RX1) (T := TX1) (N := 7) hx hb hts hin0 hown hK hP 0 rfl rfl 3 (by decide) hl_n (fun _ h9 => h9) rfl dX1_times_8 ?_
      refine lv_icmp_ge (tgt := 38) hx hb dX1_times_11 (by decide) (fun c_11 => ?_) (fun c_11 => ?_)
      ·
        have c_11 := (nI_leI (by omega) (by omega)).mp c_11
        exfalso; omega
      ·
        have c_11 : ¬ _ := fun h9 => c_11 ((nI_leI (by omega) (by omega)).mpr h9)
        refine lv_iload_n hx hb dX1_times_14 rfl (lv_at hl 3 rfl) ?_
        refine lv_iload_n hx hb dX1_times_15 rfl (lv_at hl 2 rfl) ?_
        refine lv_iload_n hx hb dX1_times_16 rfl (lv_at hl 1 rfl) ?_
        refine lv_iload hx hb dX1_times_17 (lv_at hl 4 rfl) ?_
        refine pu_S (As := [.int (nI (P)), .int (nI (i))]) (rest := [.int (nI (Q)), .int (nI (x))]) ⟨hx, hb, hml, hown, hts⟩ (kX1_image (P := P) (i := i) (by omega) (by omega)) (va_cwS 2 hts gX1_times_X1_image rfl rfl rfl eX1_image ⟨by decide, by decide⟩) hK rfl hl.1 rfl (Nat.le_of_ble_eq_true rfl) dX1_times_19 ⟨Nat.zero_le _, Nat.zero_le _⟩ ?_
        refine pu_S (As := [.int (nI (Q)), .int (nI (im (P) (i)))]) (rest := [.int (nI (x))]) ⟨hx, hb, hml, hown, hts⟩ (kX1_image (P := Q) (i := im P i) (by omega) (Nat.le_trans (im_le _ _) (by decide))) (va_cwS 2 hts gX1_times_X1_image rfl rfl rfl eX1_image ⟨by decide, by decide⟩) hK rfl hl.1 rfl (Nat.le_of_ble_eq_true rfl) dX1_times_22 ⟨Nat.zero_le _, Nat.zero_le _⟩ ?_
        refine lv_iconst (v := nI (3)) hx hb dX1_times_25 (by decide) ?_
        refine lv_iload hx hb dX1_times_26 (lv_at hl 4 rfl) ?_
        refine lv_imul hx hb dX1_times_28 ?_
        refine pu_tp (pk_mul _ _) ?_
        refine lv_ishl hx hb dX1_times_29 ?_
        refine pu_tp (nb_shl _ (by omega)) ?_
        refine lv_ior hx hb dX1_times_30 ?_
        refine pu_tp (nb_or _ _) ?_
        refine lv_istore_n (lv' := [(3, .int (nI (x ||| ((im (Q) (im P i)) * 2 ^ (3 * i))))), (0, .ref h), (1, .int (nI (P))), (2, .int (nI (Q))), (4, .int (nI (i)))]) hx hb dX1_times_31 rfl hl (by decide) rfl (fun ls hl => ?_)
        refine lv_iinc (v := nI (i + 1)) (lv' := [(4, .int (nI (i + 1))), (3, .int (nI (x ||| ((im (Q) (im P i)) * 2 ^ (3 * i))))), (0, .ref h), (1, .int (nI (P))), (2, .int (nI (Q)))]) hx hb dX1_times_32 hl (k := 4) rfl (nI_1 _) (by decide) rfl (fun ls hl => ?_)
        refine lv_goto (tgt := 5) hx hb dX1_times_35 (by decide) ?_
        exact ih_5 (i + 1) (x ||| im Q (im P i) * 2 ^ (3 * i)) (by omega) hr ls (lv_sub hl [2, 3, 4, 1, 0] rfl)
  exact loop_5 n 0 0 (by omega) rfl ls (lv_sub hl [2, 3, 4, 1, 0] rfl)
theorem eX1_back : yX1_back.cls = RX1 ∧ yX1_back.cls ≠ "java/lang/invoke/MethodHandle" ∧ yX1_back.cls ≠ "java/lang/invoke/VarHandle" ∧ (parseMethodDescriptor yX1_back.desc).map (fun d => d.parameters.length) = some 1 := by decide +kernel
set_option maxHeartbeats 4000000 in
set_option maxRecDepth 100000 in
theorem kX1_back (hP : va_P D vwCl (mW cI cZ h fa ge inn wa (nI ct) (nI n) th gn iv wv) H) (hn : n ≤ 7) {P : Nat} (hp : P < 2 ^ 31) : pI l yX1_back wsX1_back ({ frames := 1, cells := 0, slots := 0, locals := 21 } : Room) [.ref h, .int (nI (P))] D (gT cI cG cZ) H (nI (bk n P)) := by
  refine pI_ofW (cc := cX1_back) (maxL := 4) (ret := (some .int)) (by decide) rfl (Or.inl rfl) (Nat.le_of_ble_eq_true rfl) ?_
  intro p e s m args below meth c QQ hx hb hml hown hts hK hret ls hl
  have hl : lv_has ls 4 [(0, .ref h), (1, .int (nI (P)))] := hl
  have hown : s.vm.findClass RX1 = some m.cls := hown
  have hin0 : ∀ w ∈ wsX10, w ∈ wsX1_back := fun w h => List.mem_cons_of_mem _ (List.mem_append_right _ h)
  have hl_n : (Cond.fieldLink RX1 23 "PermGroupModel" "n" "I").before args s = true := hts _ (by decide +kernel)
  refine lv_iconst (v := nI (0)) hx hb dX1_back_0 (by decide) ?_
  refine lv_istore_n (lv' := [(2, .int (nI (0))), (0, .ref h), (1, .int (nI (P)))]) hx hb dX1_back_1 rfl hl (by decide) rfl (fun ls hl => ?_)
  refine lv_iconst (v := nI (0)) hx hb dX1_back_2 (by decide) ?_
  refine lv_istore_n (lv' := [(3, .int (nI (0))), (2, .int (nI (0))), (0, .ref h), (1, .int (nI (P)))]) hx hb dX1_back_3 rfl hl (by decide) rfl (fun ls hl => ?_)
  have loop_4 : ∀ (k i x : Nat), (i + k = n) → (nI (bk n P) = nI (bkF P k i x)) → ∀ (ls : Array Slot), lv_has ls 4 [(0, .ref h), (1, .int (nI (P))), (2, .int (nI (x))), (3, .int (nI (i)))] → W p l e ({ frames := 1, cells := 0, slots := 0, locals := 21 } : Room) s m args below meth c H [] 0 0 QQ (F0 m 4 ls []) := by
    intro k
    induction k with
    | zero =>
      intro i x hk hr ls hl
      refine lv_iload_n hx hb dX1_back_4 rfl (lv_at hl 3 rfl) ?_
      refine lv_aload_n hx hb dX1_back_5 rfl (lv_at hl 0 rfl) ?_
      refine va_get (D := D) (ci := 1) (v := .int (nI (n))) (C := RX1) (T := TX1) (N := 7) hx hb hts hin0 hown hK hP 0 rfl rfl 3 (by decide) hl_n (fun _ h9 => h9) rfl dX1_back_6 ?_
      refine lv_icmp_ge (tgt := 30) hx hb dX1_back_9 (by decide) (fun c_9 => ?_) (fun c_9 => ?_)
      ·
        have c_9 := (nI_leI (by omega) (by omega)).mp c_9
        refine lv_iload_n hx hb dX1_back_30 rfl (lv_at hl 2 rfl) ?_
        exact hret _ _ _ (hr.symm) dX1_back_31
      ·
        have c_9 : ¬ _ := fun h9 => c_9 ((nI_leI (by omega) (by omega)).mpr h9)
        exfalso; omega
    | succ k ih_4 =>
      intro i x hk hr ls hl
      refine lv_iload_n hx hb dX1_back_4 rfl (lv_at hl 3 rfl) ?_
      refine lv_aload_n hx hb dX1_back_5 rfl (lv_at hl 0 rfl) ?_
      refine va_get (D := D) (ci := 1) (v := .int (nI (n))) (C := RX1) (T := TX1) (N := 7) hx hb hts hin0 hown hK hP 0 rfl rfl 3 (by decide) hl_n (fun _ h9 => h9) rfl dX1_back_6 ?_
      refine lv_icmp_ge (tgt := 30) hx hb dX1_back_9 (by decide) (fun c_9 => ?_) (fun c_9 => ?_)
      ·
        have c_9 := (nI_leI (by omega) (by omega)).mp c_9
        exfalso; omega
      ·
        have c_9 : ¬ _ := fun h9 => c_9 ((nI_leI (by omega) (by omega)).mpr h9)
        refine lv_iload_n hx hb dX1_back_12 rfl (lv_at hl 2 rfl) ?_
        refine lv_iload_n hx hb dX1_back_13 rfl (lv_at hl 3 rfl) ?_
        refine lv_iconst (v := nI (3)) hx hb dX1_back_14 (by decide) ?_
        refine lv_iload_n hx hb dX1_back_15 rfl (lv_at hl 1 rfl) ?_
        refine lv_iload_n hx hb dX1_back_16 rfl (lv_at hl 3 rfl) ?_
        refine pu_S (As := [.int (nI (P)), .int (nI (i))]) (rest := [.int (nI (3)), .int (nI (i)), .int (nI (x))]) ⟨hx, hb, hml, hown, hts⟩ (kX1_image (P := P) (i := i) (by omega) (by omega)) (va_cwS 2 hts gX1_back_X1_image rfl rfl rfl eX1_image ⟨by decide, by decide⟩) hK rfl hl.1 rfl (Nat.le_of_ble_eq_true rfl) dX1_back_17 ⟨Nat.zero_le _, Nat.zero_le _⟩ ?_
        refine lv_imul hx hb dX1_back_20 ?_
        refine pu_tp (pk_mul _ _) ?_
        refine lv_ishl hx hb dX1_back_21 ?_
        refine pu_tp (nb_shl _ (by have := im_le P i; omega)) ?_
        refine lv_ior hx hb dX1_back_22 ?_
        refine pu_tp (nb_or _ _) ?_
        refine lv_istore_n (lv' := [(2, .int (nI (x ||| (i * 2 ^ (3 * (im (P) (i))))))), (0, .ref h), (1, .int (nI (P))), (3, .int (nI (i)))]) hx hb dX1_back_23 rfl hl (by decide) rfl (fun ls hl => ?_)
        refine lv_iinc (v := nI (i + 1)) (lv' := [(3, .int (nI (i + 1))), (2, .int (nI (x ||| (i * 2 ^ (3 * (im (P) (i))))))), (0, .ref h), (1, .int (nI (P)))]) hx hb dX1_back_24 hl (k := 3) rfl (nI_1 _) (by decide) rfl (fun ls hl => ?_)
        refine lv_goto (tgt := 4) hx hb dX1_back_27 (by decide) ?_
        exact ih_4 (i + 1) (x ||| i * 2 ^ (3 * im P i)) (by omega) hr ls (lv_sub hl [2, 3, 1, 0] rfl)
  exact loop_4 n 0 0 (by omega) rfl ls (lv_sub hl [2, 3, 1, 0] rfl)
theorem eX1_free : yX1_free.cls = RX1 ∧ yX1_free.cls ≠ "java/lang/invoke/MethodHandle" ∧ yX1_free.cls ≠ "java/lang/invoke/VarHandle" ∧ (parseMethodDescriptor yX1_free.desc).map (fun d => d.parameters.length) = some 3 := by decide +kernel
set_option maxHeartbeats 4000000 in
set_option maxRecDepth 100000 in
theorem kX1_free (hP : va_P D vwCl (mW cI cZ h fa ge inn wa (nI ct) (nI n) th gn iv wv) H) {P i y : Nat} (hp : P < 2 ^ 31) (hi : i ≤ 8) (hy : y ≤ 8) : pI l yX1_free wsX1_free ({ frames := 1, cells := 0, slots := 0, locals := 21 } : Room) [.ref h, .int (nI (P)), .int (nI (i)), .int (nI (y))] D (gT cI cG cZ) H (nI (fr P i y)) := by
  refine pI_ofW (cc := cX1_free) (maxL := 8) (ret := (some .int)) (by decide) rfl (Or.inl rfl) (Nat.le_of_ble_eq_true rfl) ?_
  intro p e s m args below meth c QQ hx hb hml hown hts hK hret ls hl
  have hl : lv_has ls 8 [(0, .ref h), (1, .int (nI (P))), (2, .int (nI (i))), (3, .int (nI (y)))] := hl
  have hown : s.vm.findClass RX1 = some m.cls := hown
  refine lv_iconst (v := nI (0)) hx hb dX1_free_0 (by decide) ?_
  refine lv_istore (lv' := [(4, .int (nI (0))), (0, .ref h), (1, .int (nI (P))), (2, .int (nI (i))), (3, .int (nI (y)))]) hx hb dX1_free_1 hl (by decide) rfl (fun ls hl => ?_)
  refine lv_iconst (v := nI (0)) hx hb dX1_free_3 (by decide) ?_
  refine lv_istore (lv' := [(5, .int (nI (0))), (4, .int (nI (0))), (0, .ref h), (1, .int (nI (P))), (2, .int (nI (i))), (3, .int (nI (y)))]) hx hb dX1_free_4 hl (by decide) rfl (fun ls hl => ?_)
  have loop_6 : ∀ (k z x : Nat), (z + k = y) → (nI (fr P i y) = nI (frF P i k z x)) → ∀ (ls : Array Slot), lv_has ls 8 [(0, .ref h), (1, .int (nI (P))), (2, .int (nI (i))), (3, .int (nI (y))), (4, .int (nI (x))), (5, .int (nI (z)))] → W p l e ({ frames := 1, cells := 0, slots := 0, locals := 21 } : Room) s m args below meth c H [] 0 0 QQ (F0 m 6 ls []) := by
    intro k
    induction k with
    | zero =>
      intro z x hk hr ls hl
      refine lv_iload hx hb dX1_free_6 (lv_at hl 5 rfl) ?_
      refine lv_iload_n hx hb dX1_free_8 rfl (lv_at hl 3 rfl) ?_
      refine lv_icmp_ge (tgt := 58) hx hb dX1_free_9 (by decide) (fun c_9 => ?_) (fun c_9 => ?_)
      ·
        have c_9 := (nI_leI (by omega) (by omega)).mp c_9
        refine lv_iload hx hb dX1_free_58 (lv_at hl 4 rfl) ?_
        exact hret _ _ _ (hr.symm) dX1_free_60
      ·
        have c_9 : ¬ _ := fun h9 => c_9 ((nI_leI (by omega) (by omega)).mpr h9)
        exfalso; omega
    | succ k ih_6 =>
      intro z x hk hr ls hl
      refine lv_iload hx hb dX1_free_6 (lv_at hl 5 rfl) ?_
      refine lv_iload_n hx hb dX1_free_8 rfl (lv_at hl 3 rfl) ?_
      refine lv_icmp_ge (tgt := 58) hx hb dX1_free_9 (by decide) (fun c_9 => ?_) (fun c_9 => ?_)
      ·
        have c_9 := (nI_leI (by omega) (by omega)).mp c_9
        exfalso; omega
      ·
        have c_9 : ¬ _ := fun h9 => c_9 ((nI_leI (by omega) (by omega)).mpr h9)
        refine lv_iconst (v := nI (0)) hx hb dX1_free_12 (by decide) ?_
        refine lv_istore (lv' := [(6, .int (nI (0))), (0, .ref h), (1, .int (nI (P))), (2, .int (nI (i))), (3, .int (nI (y))), (4, .int (nI (x))), (5, .int (nI (z)))]) hx hb dX1_free_13 hl (by decide) rfl (fun ls hl => ?_)
        refine lv_iconst (v := nI (0)) hx hb dX1_free_15 (by decide) ?_
        refine lv_istore (lv' := [(7, .int (nI (0))), (6, .int (nI (0))), (0, .ref h), (1, .int (nI (P))), (2, .int (nI (i))), (3, .int (nI (y))), (4, .int (nI (x))), (5, .int (nI (z)))]) hx hb dX1_free_16 hl (by decide) rfl (fun ls hl => ?_)
        have loop_18 : ∀ (k2 j : Nat) (u : Bool), (j + k2 = i) → (frI P z i 0 false = frI P z k2 j u) → ∀ (ls : Array Slot), lv_has ls 8 [(0, .ref h), (1, .int (nI (P))), (2, .int (nI (i))), (3, .int (nI (y))), (4, .int (nI (x))), (5, .int (nI (z))), (6, .int (b01 (u))), (7, .int (nI (j)))] → W p l e ({ frames := 1, cells := 0, slots := 0, locals := 21 } : Room) s m args below meth c H [] 0 0 QQ (F0 m 18 ls []) := by
          intro k2
          induction k2 with
          | zero =>
            intro j u hk2 hr2 ls hl
            refine lv_iload hx hb dX1_free_18 (lv_at hl 7 rfl) ?_
            refine lv_iload_n hx hb dX1_free_20 rfl (lv_at hl 2 rfl) ?_
            refine lv_icmp_ge (tgt := 44) hx hb dX1_free_21 (by decide) (fun c_21 => ?_) (fun c_21 => ?_)
            ·
              have c_21 := (nI_leI (by omega) (by omega)).mp c_21
              refine lv_iload hx hb dX1_free_44 (lv_at hl 6 rfl) ?_
              refine lv_if_ne (tgt := 52) hx hb dX1_free_46 (by decide) (fun c_46 => ?_) (fun c_46 => ?_)
              ·
                have c_46 := b01_t c_46
                refine lv_iinc (v := nI (z + 1)) (lv' := [(5, .int (nI (z + 1))), (0, .ref h), (1, .int (nI (P))), (2, .int (nI (i))), (3, .int (nI (y))), (4, .int (nI (x))), (6, .int (b01 (u))), (7, .int (nI (j)))]) hx hb dX1_free_52 hl (k := 5) rfl (nI_1 _) (by decide) rfl (fun ls hl => ?_)
                refine lv_goto (tgt := 6) hx hb dX1_free_55 (by decide) ?_
                exact ih_6 (z + 1) x (by omega) (hr.trans (congrArg nI (frF_t (hr2.trans c_46)))) ls (lv_sub hl [1, 2, 3, 4, 5, 0] rfl)
              ·
                have c_46 := b01_f c_46
                refine lv_iinc (v := nI (x + 1)) (lv' := [(4, .int (nI (x + 1))), (0, .ref h), (1, .int (nI (P))), (2, .int (nI (i))), (3, .int (nI (y))), (5, .int (nI (z))), (6, .int (b01 (u))), (7, .int (nI (j)))]) hx hb dX1_free_49 hl (k := 4) rfl (nI_1 _) (by decide) rfl (fun ls hl => ?_)
                refine lv_iinc (v := nI (z + 1)) (lv' := [(5, .int (nI (z + 1))), (4, .int (nI (x + 1))), (0, .ref h), (1, .int (nI (P))), (2, .int (nI (i))), (3, .int (nI (y))), (6, .int (b01 (u))), (7, .int (nI (j)))]) hx hb dX1_free_52 hl (k := 5) rfl (nI_1 _) (by decide) rfl (fun ls hl => ?_)
                refine lv_goto (tgt := 6) hx hb dX1_free_55 (by decide) ?_
                exact ih_6 (z + 1) (x + 1) (by omega) (hr.trans (congrArg nI (frF_f (hr2.trans c_46)))) ls (lv_sub hl [2, 3, 4, 5, 1, 0] rfl)
            ·
              have c_21 : ¬ _ := fun h9 => c_21 ((nI_leI (by omega) (by omega)).mpr h9)
              exfalso; omega
          | succ k2 ih_18 =>
            intro j u hk2 hr2 ls hl
            refine lv_iload hx hb dX1_free_18 (lv_at hl 7 rfl) ?_
            refine lv_iload_n hx hb dX1_free_20 rfl (lv_at hl 2 rfl) ?_
            refine lv_icmp_ge (tgt := 44) hx hb dX1_free_21 (by decide) (fun c_21 => ?_) (fun c_21 => ?_)
            ·
              have c_21 := (nI_leI (by omega) (by omega)).mp c_21
              exfalso; omega
            ·
              have c_21 : ¬ _ := fun h9 => c_21 ((nI_leI (by omega) (by omega)).mpr h9)
              refine lv_iload_n hx hb dX1_free_24 rfl (lv_at hl 1 rfl) ?_
              refine lv_iload hx hb dX1_free_25 (lv_at hl 7 rfl) ?_
              refine pu_S (As := [.int (nI (P)), .int (nI (j))]) (rest := []) ⟨hx, hb, hml, hown, hts⟩ (kX1_image (P := P) (i := j) (by omega) (by omega)) (va_cwS 2 hts gX1_free_X1_image rfl rfl rfl eX1_image ⟨by decide, by decide⟩) hK rfl hl.1 rfl (Nat.le_of_ble_eq_true rfl) dX1_free_27 ⟨Nat.zero_le _, Nat.zero_le _⟩ ?_
              refine lv_iload hx hb dX1_free_30 (lv_at hl 5 rfl) ?_
              refine lv_icmp_ne (tgt := 38) hx hb dX1_free_32 (by decide) (fun c_32 => ?_) (fun c_32 => ?_)
              ·
                have c_32 : ¬ _ := fun h9 => c_32 ((nb_eqI (Nat.lt_trans (im_lt _ _) (by decide)) (by omega)).mpr h9)
                refine lv_iinc (v := nI (j + 1)) (lv' := [(7, .int (nI (j + 1))), (0, .ref h), (1, .int (nI (P))), (2, .int (nI (i))), (3, .int (nI (y))), (4, .int (nI (x))), (5, .int (nI (z))), (6, .int (b01 (u)))]) hx hb dX1_free_38 hl (k := 7) rfl (nI_1 _) (by decide) rfl (fun ls hl => ?_)
                refine lv_goto (tgt := 18) hx hb dX1_free_41 (by decide) ?_
                exact ih_18 (j + 1) u (by omega) (hr2.trans (frI_f c_32)) ls (lv_sub hl [1, 2, 3, 4, 5, 6, 7, 0] rfl)
              ·
                have c_32 := (nb_eqI (Nat.lt_trans (im_lt _ _) (by decide)) (by omega)).mp c_32
                refine lv_iconst (v := nI (1)) hx hb dX1_free_35 (by decide) ?_
                refine lv_istore (lv' := [(6, .int (nI (1))), (0, .ref h), (1, .int (nI (P))), (2, .int (nI (i))), (3, .int (nI (y))), (4, .int (nI (x))), (5, .int (nI (z))), (7, .int (nI (j)))]) hx hb dX1_free_36 hl (by decide) rfl (fun ls hl => ?_)
                refine lv_iinc (v := nI (j + 1)) (lv' := [(7, .int (nI (j + 1))), (6, .int (nI (1))), (0, .ref h), (1, .int (nI (P))), (2, .int (nI (i))), (3, .int (nI (y))), (4, .int (nI (x))), (5, .int (nI (z)))]) hx hb dX1_free_38 hl (k := 7) rfl (nI_1 _) (by decide) rfl (fun ls hl => ?_)
                refine lv_goto (tgt := 18) hx hb dX1_free_41 (by decide) ?_
                exact ih_18 (j + 1) true (by omega) (hr2.trans (frI_t c_32)) ls (lv_sub hl [2, 3, 4, 5, 6, 7, 1, 0] rfl)
        exact loop_18 i 0 false (by omega) rfl ls (lv_sub hl [2, 3, 4, 5, 6, 7, 1, 0] rfl)
  exact loop_6 y 0 0 (by omega) rfl ls (lv_sub hl [2, 3, 4, 5, 1, 0] rfl)
theorem eX1_numberOf : yX1_numberOf.cls = RX1 ∧ yX1_numberOf.cls ≠ "java/lang/invoke/MethodHandle" ∧ yX1_numberOf.cls ≠ "java/lang/invoke/VarHandle" ∧ (parseMethodDescriptor yX1_numberOf.desc).map (fun d => d.parameters.length) = some 1 := by decide +kernel
set_option maxHeartbeats 4000000 in
set_option maxRecDepth 100000 in
theorem kX1_numberOf (hP : va_P D vwCl (mW cI cZ h fa ge inn wa (nI ct) (nI n) th gn iv wv) H) (hn : n ≤ 7) {P : Nat} (hp : P < 2 ^ 31) : pI l yX1_numberOf wsX1_numberOf ({ frames := 2, cells := 0, slots := 0, locals := 48 } : Room) [.ref h, .int (nI (P))] D (gT cI cG cZ) H (nI (nu n P)) := by
  refine pI_ofW (cc := cX1_numberOf) (maxL := 4) (ret := (some .int)) (by decide) rfl (Or.inl rfl) (Nat.le_of_ble_eq_true rfl) ?_
  intro p e s m args below meth c QQ hx hb hml hown hts hK hret ls hl
  have hl : lv_has ls 4 [(0, .ref h), (1, .int (nI (P)))] := hl
  have hown : s.vm.findClass RX1 = some m.cls := hown
  have hin0 : ∀ w ∈ wsX10, w ∈ wsX1_numberOf := fun w h => List.mem_cons_of_mem _ (List.mem_append_right _ h)
  have hl_factorials : (Cond.fieldLink RX1 7 "PermGroupModel" "factorials" "[I").before args s = true := hts _ (by decide +kernel)
  have hl_n : (Cond.fieldLink RX1 23 "PermGroupModel" "n" "I").before args s = true := hts _ (by decide +kernel)
  refine lv_iconst (v := nI (0)) hx hb dX1_numberOf_0 (by decide) ?_
  refine lv_istore_n (lv' := [(2, .int (nI (0))), (0, .ref h), (1, .int (nI (P)))]) hx hb dX1_numberOf_1 rfl hl (by decide) rfl (fun ls hl => ?_)
  refine lv_iconst (v := nI (0)) hx hb dX1_numberOf_2 (by decide) ?_
  refine lv_istore_n (lv' := [(3, .int (nI (0))), (2, .int (nI (0))), (0, .ref h), (1, .int (nI (P)))]) hx hb dX1_numberOf_3 rfl hl (by decide) rfl (fun ls hl => ?_)
  have loop_4 : ∀ (k i x : Nat), (i + k = n) → (nI (nu n P) = nI (nuF n P k i x)) → ∀ (ls : Array Slot), lv_has ls 4 [(0, .ref h), (1, .int (nI (P))), (2, .int (nI (x))), (3, .int (nI (i)))] → W p l e ({ frames := 2, cells := 0, slots := 0, locals := 48 } : Room) s m args below meth c H [] 0 0 QQ (F0 m 4 ls []) := by
    intro k
    induction k with
    | zero =>
      intro i x hk hr ls hl
      refine lv_iload_n hx hb dX1_numberOf_4 rfl (lv_at hl 3 rfl) ?_
      refine lv_aload_n hx hb dX1_numberOf_5 rfl (lv_at hl 0 rfl) ?_
      refine va_get (D := D) (ci := 1) (v := .int (nI (n))) (C := RX1) (T := TX1) (N := 7) hx hb hts hin0 hown hK hP 0 rfl rfl 3 (by decide) hl_n (fun _ h9 => h9) rfl dX1_numberOf_6 ?_
      refine lv_icmp_ge (tgt := 46) hx hb dX1_numberOf_9 (by decide) (fun c_9 => ?_) (fun c_9 => ?_)
      ·
        have c_9 := (nI_leI (by omega) (by omega)).mp c_9
        refine lv_iload_n hx hb dX1_numberOf_46 rfl (lv_at hl 2 rfl) ?_
        exact hret _ _ _ (hr.symm) dX1_numberOf_47
      ·
        have c_9 : ¬ _ := fun h9 => c_9 ((nI_leI (by omega) (by omega)).mpr h9)
        exfalso; omega
    | succ k ih_4 =>
      intro i x hk hr ls hl
      refine lv_iload_n hx hb dX1_numberOf_4 rfl (lv_at hl 3 rfl) ?_
      refine lv_aload_n hx hb dX1_numberOf_5 rfl (lv_at hl 0 rfl) ?_
      refine va_get (D := D) (ci := 1) (v := .int (nI (n))) (C := RX1) (T := TX1) (N := 7) hx hb hts hin0 hown hK hP 0 rfl rfl 3 (by decide) hl_n (fun _ h9 => h9) rfl dX1_numberOf_6 ?_
      refine lv_icmp_ge (tgt := 46) hx hb dX1_numberOf_9 (by decide) (fun c_9 => ?_) (fun c_9 => ?_)
      ·
        have c_9 := (nI_leI (by omega) (by omega)).mp c_9
        exfalso; omega
      ·
        have c_9 : ¬ _ := fun h9 => c_9 ((nI_leI (by omega) (by omega)).mpr h9)
        refine lv_iload_n hx hb dX1_numberOf_12 rfl (lv_at hl 2 rfl) ?_
        refine lv_aload_n hx hb dX1_numberOf_13 rfl (lv_at hl 0 rfl) ?_
        refine lv_iload_n hx hb dX1_numberOf_14 rfl (lv_at hl 1 rfl) ?_
        refine lv_iload_n hx hb dX1_numberOf_15 rfl (lv_at hl 3 rfl) ?_
        refine lv_iload_n hx hb dX1_numberOf_16 rfl (lv_at hl 1 rfl) ?_
        refine lv_iload_n hx hb dX1_numberOf_17 rfl (lv_at hl 3 rfl) ?_
        refine pu_S (As := [.int (nI (P)), .int (nI (i))]) (rest := [.int (nI (i)), .int (nI (P)), .ref h, .int (nI (x))]) ⟨hx, hb, hml, hown, hts⟩ (kX1_image (P := P) (i := i) (by omega) (by omega)) (va_cwS 2 hts gX1_numberOf_X1_image rfl rfl rfl eX1_image ⟨by decide, by decide⟩) hK rfl hl.1 rfl (Nat.le_of_ble_eq_true rfl) dX1_numberOf_18 ⟨Nat.zero_le _, Nat.zero_le _⟩ ?_
        refine pu_V (As := [.int (nI (P)), .int (nI (i)), .int (nI (im (P) (i)))]) (rest := [.int (nI (x))]) (b := h) ⟨hx, hb, hml, hown, hts⟩ (kX1_free hP (P := P) (i := i) (y := im P i) (by omega) (by omega) (Nat.le_of_lt (im_lt _ _))) (cwV 3 hts gX1_numberOf_X1_free rfl rfl rfl eX1_free ⟨by decide, by decide⟩) (va_recv hK hP (ci := 1) (q0 := 0) rfl rfl) hK rfl hl.1 rfl (Nat.le_of_ble_eq_true rfl) dX1_numberOf_21 ⟨Nat.zero_le _, Nat.zero_le _⟩ ?_
        refine lv_aload_n hx hb dX1_numberOf_24 rfl (lv_at hl 0 rfl) ?_
        refine va_get (D := D) (ci := 1) (v := .ref fa) (C := RX1) (T := TX1) (N := 7) hx hb hts hin0 hown hK hP 0 rfl rfl 0 (by decide) hl_factorials (fun _ h9 => h9) rfl dX1_numberOf_25 ?_
        refine lv_aload_n hx hb dX1_numberOf_28 rfl (lv_at hl 0 rfl) ?_
        refine va_get (D := D) (ci := 1) (v := .int (nI (n))) (C := RX1) (T := TX1) (N := 7) hx hb hts hin0 hown hK hP 0 rfl rfl 3 (by decide) hl_n (fun _ h9 => h9) rfl dX1_numberOf_29 ?_
        refine lv_iconst (v := nI (1)) hx hb dX1_numberOf_32 (by decide) ?_
        refine lv_isub hx hb dX1_numberOf_33 ?_
        refine pu_tp (pk_sub (by omega)) ?_
        refine lv_iload_n hx hb dX1_numberOf_34 rfl (lv_at hl 3 rfl) ?_
        refine lv_isub hx hb dX1_numberOf_35 ?_
        refine pu_tp (pk_sub (by omega)) ?_
        refine va_iald hx hb hK hP 1 0 rfl rfl (vp_in_nI (by omega) (by omega)) dX1_numberOf_36 ?_
        refine pu_tp (nb_clamp (f := facI) (by omega)) ?_
        refine pu_tp (z := nI (fac (n - 1 - i))) (facI_eq (by omega)) ?_
        refine lv_imul hx hb dX1_numberOf_37 ?_
        refine pu_tp (pk_mul _ _) ?_
        refine lv_iadd hx hb dX1_numberOf_38 ?_
        refine pu_tp (nI_add _ _) ?_
        refine lv_istore_n (lv' := [(2, .int (nI (x + ((fr (P) (i) (im P i)) * (fac (n - 1 - i)))))), (0, .ref h), (1, .int (nI (P))), (3, .int (nI (i)))]) hx hb dX1_numberOf_39 rfl hl (by decide) rfl (fun ls hl => ?_)
        refine lv_iinc (v := nI (i + 1)) (lv' := [(3, .int (nI (i + 1))), (2, .int (nI (x + ((fr (P) (i) (im P i)) * (fac (n - 1 - i)))))), (0, .ref h), (1, .int (nI (P)))]) hx hb dX1_numberOf_40 hl (k := 3) rfl (nI_1 _) (by decide) rfl (fun ls hl => ?_)
        refine lv_goto (tgt := 4) hx hb dX1_numberOf_43 (by decide) ?_
        exact ih_4 (i + 1) (x + fr P i (im P i) * fac (n - 1 - i)) (by omega) hr ls (lv_sub hl [2, 3, 1, 0] rfl)
  exact loop_4 n 0 0 (by omega) rfl ls (lv_sub hl [2, 3, 1, 0] rfl)
theorem eX1_isUsed : yX1_isUsed.cls ≠ "java/lang/invoke/MethodHandle" ∧ yX1_isUsed.cls ≠ "java/lang/invoke/VarHandle" ∧ (parseMethodDescriptor yX1_isUsed.desc).map (fun d => d.parameters.length) = some 3 := by decide +kernel
set_option maxHeartbeats 4000000 in
set_option maxRecDepth 100000 in
theorem kX1_isUsed {P i y : Nat} (hp : P < 2 ^ 31) (hi : i ≤ 8) (hy : y < 2 ^ 31) : pI l yX1_isUsed wsX1_isUsed ({ frames := 1, cells := 0, slots := 0, locals := 21 } : Room) [.int (nI (P)), .int (nI (i)), .int (nI (y))] D (gT cI cG cZ) H (b01 (us P i y)) := by
  refine pI_ofW (cc := cX1_isUsed) (maxL := 4) (ret := (some .boolean)) (by decide) rfl (Or.inr ⟨rfl, b01_or _⟩) (Nat.le_of_ble_eq_true rfl) ?_
  intro p e s m args below meth c QQ hx hb hml hown hts hK hret ls hl
  have hl : lv_has ls 4 [(0, .int (nI (P))), (1, .int (nI (i))), (2, .int (nI (y)))] := hl
  have hown : s.vm.findClass RX1 = some m.cls := hown
  refine lv_iconst (v := nI (0)) hx hb dX1_isUsed_0 (by decide) ?_
  refine lv_istore_n (lv' := [(3, .int (nI (0))), (0, .int (nI (P))), (1, .int (nI (i))), (2, .int (nI (y)))]) hx hb dX1_isUsed_1 rfl hl (by decide) rfl (fun ls hl => ?_)
  have loop_2 : ∀ (k j : Nat), (j + k = i) → (us P i y = usF P y k j) → ∀ (ls : Array Slot), lv_has ls 4 [(0, .int (nI (P))), (1, .int (nI (i))), (2, .int (nI (y))), (3, .int (nI (j)))] → W p l e ({ frames := 1, cells := 0, slots := 0, locals := 21 } : Room) s m args below meth c H [] 0 0 QQ (F0 m 2 ls []) := by
    intro k
    induction k with
    | zero =>
      intro j hk hr ls hl
      refine lv_iload_n hx hb dX1_isUsed_2 rfl (lv_at hl 3 rfl) ?_
      refine lv_iload_n hx hb dX1_isUsed_3 rfl (lv_at hl 1 rfl) ?_
      refine lv_icmp_ge (tgt := 24) hx hb dX1_isUsed_4 (by decide) (fun c_4 => ?_) (fun c_4 => ?_)
      ·
        have c_4 := (nI_leI (by omega) (by omega)).mp c_4
        refine lv_iconst (v := nI (0)) hx hb dX1_isUsed_24 (by decide) ?_
        exact hret _ _ _ (by rw [hr]; rfl) dX1_isUsed_25
      ·
        have c_4 : ¬ _ := fun h9 => c_4 ((nI_leI (by omega) (by omega)).mpr h9)
        exfalso; omega
    | succ k ih_2 =>
      intro j hk hr ls hl
      refine lv_iload_n hx hb dX1_isUsed_2 rfl (lv_at hl 3 rfl) ?_
      refine lv_iload_n hx hb dX1_isUsed_3 rfl (lv_at hl 1 rfl) ?_
      refine lv_icmp_ge (tgt := 24) hx hb dX1_isUsed_4 (by decide) (fun c_4 => ?_) (fun c_4 => ?_)
      ·
        have c_4 := (nI_leI (by omega) (by omega)).mp c_4
        exfalso; omega
      ·
        have c_4 : ¬ _ := fun h9 => c_4 ((nI_leI (by omega) (by omega)).mpr h9)
        refine lv_iload_n hx hb dX1_isUsed_7 rfl (lv_at hl 0 rfl) ?_
        refine lv_iload_n hx hb dX1_isUsed_8 rfl (lv_at hl 3 rfl) ?_
        refine pu_S (As := [.int (nI (P)), .int (nI (j))]) (rest := []) ⟨hx, hb, hml, hown, hts⟩ (kX1_image (P := P) (i := j) (by omega) (by omega)) (va_cwS 2 hts gX1_isUsed_X1_image rfl rfl rfl eX1_image ⟨by decide, by decide⟩) hK rfl hl.1 rfl (Nat.le_of_ble_eq_true rfl) dX1_isUsed_9 ⟨Nat.zero_le _, Nat.zero_le _⟩ ?_
        refine lv_iload_n hx hb dX1_isUsed_12 rfl (lv_at hl 2 rfl) ?_
        refine lv_icmp_ne (tgt := 18) hx hb dX1_isUsed_13 (by decide) (fun c_13 => ?_) (fun c_13 => ?_)
        ·
          have c_13 : ¬ _ := fun h9 => c_13 ((nb_eqI (Nat.lt_trans (im_lt _ _) (by decide)) (by omega)).mpr h9)
          refine lv_iinc (v := nI (j + 1)) (lv' := [(3, .int (nI (j + 1))), (0, .int (nI (P))), (1, .int (nI (i))), (2, .int (nI (y)))]) hx hb dX1_isUsed_18 hl (k := 3) rfl (nI_1 _) (by decide) rfl (fun ls hl => ?_)
          refine lv_goto (tgt := 2) hx hb dX1_isUsed_21 (by decide) ?_
          exact ih_2 (j + 1) (by omega) (hr.trans (if_neg c_13)) ls (lv_sub hl [1, 2, 3, 0] rfl)
        ·
          have c_13 := (nb_eqI (Nat.lt_trans (im_lt _ _) (by decide)) (by omega)).mp c_13
          refine lv_iconst (v := nI (1)) hx hb dX1_isUsed_16 (by decide) ?_
          exact hret _ _ _ (by rw [hr.trans (if_pos c_13)]; rfl) dX1_isUsed_17
  exact loop_2 i 0 (by omega) rfl ls (lv_sub hl [1, 2, 3, 0] rfl)
theorem eX1_permutation : yX1_permutation.cls = RX1 ∧ yX1_permutation.cls ≠ "java/lang/invoke/MethodHandle" ∧ yX1_permutation.cls ≠ "java/lang/invoke/VarHandle" ∧ (parseMethodDescriptor yX1_permutation.desc).map (fun d => d.parameters.length) = some 1 := by decide +kernel
set_option maxHeartbeats 4000000 in
set_option maxRecDepth 100000 in
theorem kX1_permutation (hP : va_P D vwCl (mW cI cZ h fa ge inn wa (nI ct) (nI n) th gn iv wv) H) (hn : n ≤ 7) {q : Nat} (hq : q < 2 ^ 31) : pI l yX1_permutation wsX1_permutation ({ frames := 2, cells := 0, slots := 0, locals := 48 } : Room) [.ref h, .int (nI (q))] D (gT cI cG cZ) H (nI (pe n q)) := by
  refine pI_ofW (cc := cX1_permutation) (maxL := 7) (ret := (some .int)) (by decide) rfl (Or.inl rfl) (Nat.le_of_ble_eq_true rfl) ?_
  intro p e s m args below meth c QQ hx hb hml hown hts hK hret ls hl
  have hl : lv_has ls 7 [(0, .ref h), (1, .int (nI (q)))] := hl
  have hown : s.vm.findClass RX1 = some m.cls := hown
  have hin0 : ∀ w ∈ wsX10, w ∈ wsX1_permutation := fun w h => List.mem_cons_of_mem _ (List.mem_append_right _ h)
  have hl_factorials : (Cond.fieldLink RX1 7 "PermGroupModel" "factorials" "[I").before args s = true := hts _ (by decide +kernel)
  have hl_n : (Cond.fieldLink RX1 23 "PermGroupModel" "n" "I").before args s = true := hts _ (by decide +kernel)
  refine lv_iconst (v := nI (0)) hx hb dX1_permutation_0 (by decide) ?_
  refine lv_istore_n (lv' := [(2, .int (nI (0))), (0, .ref h), (1, .int (nI (q)))]) hx hb dX1_permutation_1 rfl hl (by decide) rfl (fun ls hl => ?_)
  refine lv_iload_n hx hb dX1_permutation_2 rfl (lv_at hl 2 rfl) ?_
  refine lv_istore_n (lv' := [(3, .int (nI (q))), (2, .int (nI (0))), (0, .ref h), (1, .int (nI (q)))]) hx hb dX1_permutation_3 rfl hl (by decide) rfl (fun ls hl => ?_)
  refine lv_iconst (v := nI (0)) hx hb dX1_permutation_4 (by decide) ?_
  refine lv_istore (lv' := [(4, .int (nI (0))), (3, .int (nI (q))), (2, .int (nI (0))), (0, .ref h), (1, .int (nI (q)))]) hx hb dX1_permutation_5 hl (by decide) rfl (fun ls hl => ?_)
  have loop_7 : ∀ (k i x r : Nat), (i + k = n) → (nI (pe n q) = nI (peF n k i x r)) → (x < 2 ^ 24) → (r < 2 ^ 31) → ∀ (ls : Array Slot), lv_has ls 7 [(0, .ref h), (2, .int (nI (x))), (3, .int (nI (r))), (4, .int (nI (i)))] → W p l e ({ frames := 2, cells := 0, slots := 0, locals := 48 } : Room) s m args below meth c H [] 0 0 QQ (F0 m 7 ls []) := by
    intro k
    induction k with
    | zero =>
      intro i x r hk hr hxl hrl ls hl
      refine lv_iload hx hb dX1_permutation_7 (lv_at hl 3 rfl) ?_
      refine lv_aload_n hx hb dX1_permutation_9 rfl (lv_at hl 0 rfl) ?_
      refine va_get (D := D) (ci := 1) (v := .int (nI (n))) (C := RX1) (T := TX1) (N := 7) hx hb hts hin0 hown hK hP 0 rfl rfl 3 (by decide) hl_n (fun _ h9 => h9) rfl dX1_permutation_10 ?_
      refine lv_icmp_ge (tgt := 108) hx hb dX1_permutation_13 (by decide) (fun c_13 => ?_) (fun c_13 => ?_)
      ·
        have c_13 := (nI_leI (by omega) (by omega)).mp c_13
        refine lv_iload_n hx hb dX1_permutation_108 rfl (lv_at hl 1 rfl) ?_
        exact hret _ _ _ (hr.symm) dX1_permutation_109
      ·
        have c_13 : ¬ _ := fun h9 => c_13 ((nI_leI (by omega) (by omega)).mpr h9)
        exfalso; omega
    | succ k ih_7 =>
      intro i x r hk hr hxl hrl ls hl
      refine lv_iload hx hb dX1_permutation_7 (lv_at hl 3 rfl) ?_
      refine lv_aload_n hx hb dX1_permutation_9 rfl (lv_at hl 0 rfl) ?_
      refine va_get (D := D) (ci := 1) (v := .int (nI (n))) (C := RX1) (T := TX1) (N := 7) hx hb hts hin0 hown hK hP 0 rfl rfl 3 (by decide) hl_n (fun _ h9 => h9) rfl dX1_permutation_10 ?_
      refine lv_icmp_ge (tgt := 108) hx hb dX1_permutation_13 (by decide) (fun c_13 => ?_) (fun c_13 => ?_)
      ·
        have c_13 := (nI_leI (by omega) (by omega)).mp c_13
        exfalso; omega
      ·
        have c_13 : ¬ _ := fun h9 => c_13 ((nI_leI (by omega) (by omega)).mpr h9)
        have hfb := fac_bd (n - 1 - i) (by omega)
        refine lv_iload_n hx hb dX1_permutation_16 rfl (lv_at hl 2 rfl) ?_
        refine lv_aload_n hx hb dX1_permutation_17 rfl (lv_at hl 0 rfl) ?_
        refine va_get (D := D) (ci := 1) (v := .ref fa) (C := RX1) (T := TX1) (N := 7) hx hb hts hin0 hown hK hP 0 rfl rfl 0 (by decide) hl_factorials (fun _ h9 => h9) rfl dX1_permutation_18 ?_
        refine lv_aload_n hx hb dX1_permutation_21 rfl (lv_at hl 0 rfl) ?_
        refine va_get (D := D) (ci := 1) (v := .int (nI (n))) (C := RX1) (T := TX1) (N := 7) hx hb hts hin0 hown hK hP 0 rfl rfl 3 (by decide) hl_n (fun _ h9 => h9) rfl dX1_permutation_22 ?_
        refine lv_iconst (v := nI (1)) hx hb dX1_permutation_25 (by decide) ?_
        refine lv_isub hx hb dX1_permutation_26 ?_
        refine pu_tp (pk_sub (by omega)) ?_
        refine lv_iload hx hb dX1_permutation_27 (lv_at hl 3 rfl) ?_
        refine lv_isub hx hb dX1_permutation_29 ?_
        refine pu_tp (pk_sub (by omega)) ?_
        refine va_iald hx hb hK hP 1 0 rfl rfl (vp_in_nI (by omega) (by omega)) dX1_permutation_30 ?_
        refine pu_tp (nb_clamp (f := facI) (by omega)) ?_
        refine pu_tp (z := nI (fac (n - 1 - i))) (facI_eq (by omega)) ?_
        refine lv_idiv hx hb dX1_permutation_31 (nI_ne0 hfb.1 (by omega)) ?_
        refine pu_tp (pk_div hrl hfb.1 (by omega)) ?_
        refine lv_istore (lv' := [(5, .int (nI (r / (fac (n - 1 - i))))), (0, .ref h), (2, .int (nI (x))), (3, .int (nI (r))), (4, .int (nI (i)))]) hx hb dX1_permutation_32 hl (by decide) rfl (fun ls hl => ?_)
        refine lv_iload_n hx hb dX1_permutation_34 rfl (lv_at hl 3 rfl) ?_
        refine lv_aload_n hx hb dX1_permutation_35 rfl (lv_at hl 1 rfl) ?_
        refine va_get (D := D) (ci := 1) (v := .ref fa) (C := RX1) (T := TX1) (N := 7) hx hb hts hin0 hown hK hP 0 rfl rfl 0 (by decide) hl_factorials (fun _ h9 => h9) rfl dX1_permutation_36 ?_
        refine lv_aload_n hx hb dX1_permutation_39 rfl (lv_at hl 1 rfl) ?_
        refine va_get (D := D) (ci := 1) (v := .int (nI (n))) (C := RX1) (T := TX1) (N := 7) hx hb hts hin0 hown hK hP 0 rfl rfl 3 (by decide) hl_n (fun _ h9 => h9) rfl dX1_permutation_40 ?_
        refine lv_iconst (v := nI (1)) hx hb dX1_permutation_43 (by decide) ?_
        refine lv_isub hx hb dX1_permutation_44 ?_
        refine pu_tp (pk_sub (by omega)) ?_
        refine lv_iload hx hb dX1_permutation_45 (lv_at hl 4 rfl) ?_
        refine lv_isub hx hb dX1_permutation_47 ?_
        refine pu_tp (pk_sub (by omega)) ?_
        refine va_iald hx hb hK hP 1 0 rfl rfl (vp_in_nI (by omega) (by omega)) dX1_permutation_48 ?_
        refine pu_tp (nb_clamp (f := facI) (by omega)) ?_
        refine pu_tp (z := nI (fac (n - 1 - i))) (facI_eq (by omega)) ?_
        refine lv_irem hx hb dX1_permutation_49 (nI_ne0 hfb.1 (by omega)) ?_
        refine pu_tp (pk_rem hrl hfb.1 (by omega)) ?_
        refine lv_istore_n (lv' := [(3, .int (nI (r % (fac (n - 1 - i))))), (5, .int (nI (r / (fac (n - 1 - i))))), (0, .ref h), (2, .int (nI (x))), (4, .int (nI (i)))]) hx hb dX1_permutation_50 rfl hl (by decide) rfl (fun ls hl => ?_)
        refine lv_iconst (v := nI (0)) hx hb dX1_permutation_51 (by decide) ?_
        refine lv_istore (lv' := [(6, .int (nI (0))), (3, .int (nI (r % (fac (n - 1 - i))))), (5, .int (nI (r / (fac (n - 1 - i))))), (0, .ref h), (2, .int (nI (x))), (4, .int (nI (i)))]) hx hb dX1_permutation_52 hl (by decide) rfl (fun ls hl => ?_)
        have loop_54 : ∀ (k2 y : Nat), (y + k2 = 7) → (peY x i (r / fac (n - 1 - i)) 7 0 = peY x i (r / fac (n - 1 - i)) k2 y) → ∀ (ls : Array Slot), lv_has ls 7 [(0, .ref h), (2, .int (nI (x))), (3, .int (nI (r % fac (n - 1 - i)))), (4, .int (nI (i))), (5, .int (nI (r / fac (n - 1 - i)))), (6, .int (nI (y)))] → W p l e ({ frames := 2, cells := 0, slots := 0, locals := 48 } : Room) s m args below meth c H [] 0 0 QQ (F0 m 54 ls []) := by
          intro k2
          induction k2 with
          | zero =>
            intro y hk2 hr2 ls hl
            refine lv_iload hx hb dX1_permutation_54 (lv_at hl 5 rfl) ?_
            refine lv_bipush (v := nI (7)) hx hb dX1_permutation_56 (by decide) ?_
            refine lv_icmp_ge (tgt := 92) hx hb dX1_permutation_58 (by decide) (fun c_58 => ?_) (fun c_58 => ?_)
            ·
              have c_58 := (nI_leI (by omega) (by omega)).mp c_58
              refine lv_iload_n hx hb dX1_permutation_92 rfl (lv_at hl 1 rfl) ?_
              refine lv_iload hx hb dX1_permutation_93 (lv_at hl 5 rfl) ?_
              refine lv_iconst (v := nI (3)) hx hb dX1_permutation_95 (by decide) ?_
              refine lv_iload hx hb dX1_permutation_96 (lv_at hl 3 rfl) ?_
              refine lv_imul hx hb dX1_permutation_98 ?_
              refine pu_tp (pk_mul _ _) ?_
              refine lv_ishl hx hb dX1_permutation_99 ?_
              refine pu_tp (nb_shl _ (by omega)) ?_
              refine lv_ior hx hb dX1_permutation_100 ?_
              refine pu_tp (nb_or _ _) ?_
              refine lv_istore_n (lv' := [(2, .int (nI (x ||| (y * 2 ^ (3 * i))))), (0, .ref h), (3, .int (nI (r % fac (n - 1 - i)))), (4, .int (nI (i))), (5, .int (nI (r / fac (n - 1 - i)))), (6, .int (nI (y)))]) hx hb dX1_permutation_101 rfl hl (by decide) rfl (fun ls hl => ?_)
              refine lv_iinc (v := nI (i + 1)) (lv' := [(4, .int (nI (i + 1))), (2, .int (nI (x ||| (y * 2 ^ (3 * i))))), (0, .ref h), (3, .int (nI (r % fac (n - 1 - i)))), (5, .int (nI (r / fac (n - 1 - i)))), (6, .int (nI (y)))]) hx hb dX1_permutation_102 hl (k := 3) rfl (nI_1 _) (by decide) rfl (fun ls hl => ?_)
              refine lv_goto (tgt := 7) hx hb dX1_permutation_105 (by decide) ?_
              exact ih_7 (i + 1) (x ||| y * 2 ^ (3 * i)) (r % fac (n - 1 - i)) (by omega) (by
                first
                | (have hz : y = peY x i (r / fac (n - 1 - i)) 7 0 := hr2.symm
                   rw [hz]; exact hr)
                | (have hz : y = peY x i (r / fac (n - 1 - i)) 7 0 := (hr2.trans (peY_hit c_72 c_83)).symm
                   rw [hz]; exact hr)) (Nat.or_lt_two_pow hxl (bd_mul (by omega) (by omega) rfl)) (Nat.lt_of_le_of_lt (Nat.mod_le _ _) hrl) ls (lv_sub hl [2, 1, 3, 0] rfl)
            ·
              have c_58 : ¬ _ := fun h9 => c_58 ((nI_leI (by omega) (by omega)).mpr h9)
              exfalso; omega
          | succ k2 ih_54 =>
            intro y hk2 hr2 ls hl
            refine lv_iload hx hb dX1_permutation_54 (lv_at hl 5 rfl) ?_
            refine lv_bipush (v := nI (7)) hx hb dX1_permutation_56 (by decide) ?_
            refine lv_icmp_ge (tgt := 92) hx hb dX1_permutation_58 (by decide) (fun c_58 => ?_) (fun c_58 => ?_)
            ·
              have c_58 := (nI_leI (by omega) (by omega)).mp c_58
              exfalso; omega
            ·
              have c_58 : ¬ _ := fun h9 => c_58 ((nI_leI (by omega) (by omega)).mpr h9)
              refine lv_aload_n hx hb dX1_permutation_61 rfl (lv_at hl 0 rfl) ?_
              refine lv_iload_n hx hb dX1_permutation_62 rfl (lv_at hl 1 rfl) ?_
              refine lv_iload hx hb dX1_permutation_63 (lv_at hl 3 rfl) ?_
              refine lv_iload hx hb dX1_permutation_65 (lv_at hl 5 rfl) ?_
              refine pu_V (As := [.int (nI (x)), .int (nI (i)), .int (nI (y))]) (rest := []) (b := h) ⟨hx, hb, hml, hown, hts⟩ (kX1_free hP (P := x) (i := i) (y := y) (by omega) (by omega) (by omega)) (cwV 3 hts gX1_permutation_X1_free rfl rfl rfl eX1_free ⟨by decide, by decide⟩) (va_recv hK hP (ci := 1) (q0 := 0) rfl rfl) hK rfl hl.1 rfl (Nat.le_of_ble_eq_true rfl) dX1_permutation_67 ⟨Nat.zero_le _, Nat.zero_le _⟩ ?_
              refine lv_iload hx hb dX1_permutation_70 (lv_at hl 4 rfl) ?_
              refine lv_icmp_ne (tgt := 86) hx hb dX1_permutation_72 (by decide) (fun c_72 => ?_) (fun c_72 => ?_)
              ·
                have c_72 : ¬ _ := fun h9 => c_72 ((nb_eqI (by have := fr_le x i y; omega) (by have := Nat.div_le_self r (fac (n - 1 - i)); omega)).mpr h9)
                refine lv_iinc (v := nI (y + 1)) (lv' := [(6, .int (nI (y + 1))), (0, .ref h), (2, .int (nI (x))), (3, .int (nI (r % fac (n - 1 - i)))), (4, .int (nI (i))), (5, .int (nI (r / fac (n - 1 - i))))]) hx hb dX1_permutation_86 hl (k := 5) rfl (nI_1 _) (by decide) rfl (fun ls hl => ?_)
                refine lv_goto (tgt := 54) hx hb dX1_permutation_89 (by decide) ?_
                exact ih_54 (y + 1) (by omega) (hr2.trans (by first | exact peY_n1 c_72 | exact peY_n2 c_83)) ls (lv_sub hl [1, 2, 3, 4, 5, 0] rfl)
              ·
                have c_72 := (nb_eqI (by have := fr_le x i y; omega) (by have := Nat.div_le_self r (fac (n - 1 - i)); omega)).mp c_72
                refine lv_iload_n hx hb dX1_permutation_75 rfl (lv_at hl 1 rfl) ?_
                refine lv_iload hx hb dX1_permutation_76 (lv_at hl 3 rfl) ?_
                refine lv_iload hx hb dX1_permutation_78 (lv_at hl 5 rfl) ?_
                refine pu_S (As := [.int (nI (x)), .int (nI (i)), .int (nI (y))]) (rest := []) ⟨hx, hb, hml, hown, hts⟩ (kX1_isUsed (P := x) (i := i) (y := y) (by omega) (by omega) (by omega)) (va_cwS 3 hts gX1_permutation_X1_isUsed rfl rfl rfl eX1_isUsed ⟨by decide, by decide⟩) hK rfl hl.1 rfl (Nat.le_of_ble_eq_true rfl) dX1_permutation_80 ⟨Nat.zero_le _, Nat.zero_le _⟩ ?_
                refine lv_if_eq (tgt := 92) hx hb dX1_permutation_83 (by decide) (fun c_83 => ?_) (fun c_83 => ?_)
                ·
                  have c_83 := b01_f c_83
                  refine lv_iload_n hx hb dX1_permutation_92 rfl (lv_at hl 1 rfl) ?_
                  refine lv_iload hx hb dX1_permutation_93 (lv_at hl 5 rfl) ?_
                  refine lv_iconst (v := nI (3)) hx hb dX1_permutation_95 (by decide) ?_
                  refine lv_iload hx hb dX1_permutation_96 (lv_at hl 3 rfl) ?_
                  refine lv_imul hx hb dX1_permutation_98 ?_
                  refine pu_tp (pk_mul _ _) ?_
                  refine lv_ishl hx hb dX1_permutation_99 ?_
                  refine pu_tp (nb_shl _ (by omega)) ?_
                  refine lv_ior hx hb dX1_permutation_100 ?_
                  refine pu_tp (nb_or _ _) ?_
                  refine lv_istore_n (lv' := [(2, .int (nI (x ||| (y * 2 ^ (3 * i))))), (0, .ref h), (3, .int (nI (r % fac (n - 1 - i)))), (4, .int (nI (i))), (5, .int (nI (r / fac (n - 1 - i)))), (6, .int (nI (y)))]) hx hb dX1_permutation_101 rfl hl (by decide) rfl (fun ls hl => ?_)
                  refine lv_iinc (v := nI (i + 1)) (lv' := [(4, .int (nI (i + 1))), (2, .int (nI (x ||| (y * 2 ^ (3 * i))))), (0, .ref h), (3, .int (nI (r % fac (n - 1 - i)))), (5, .int (nI (r / fac (n - 1 - i)))), (6, .int (nI (y)))]) hx hb dX1_permutation_102 hl (k := 3) rfl (nI_1 _) (by decide) rfl (fun ls hl => ?_)
                  refine lv_goto (tgt := 7) hx hb dX1_permutation_105 (by decide) ?_
                  exact ih_7 (i + 1) (x ||| y * 2 ^ (3 * i)) (r % fac (n - 1 - i)) (by omega) (by
                    first
                    | (have hz : y = peY x i (r / fac (n - 1 - i)) 7 0 := hr2.symm
                       rw [hz]; exact hr)
                    | (have hz : y = peY x i (r / fac (n - 1 - i)) 7 0 := (hr2.trans (peY_hit c_72 c_83)).symm
                       rw [hz]; exact hr)) (Nat.or_lt_two_pow hxl (bd_mul (by omega) (by omega) rfl)) (Nat.lt_of_le_of_lt (Nat.mod_le _ _) hrl) ls (lv_sub hl [2, 1, 3, 0] rfl)
                ·
                  have c_83 := b01_t c_83
                  refine lv_iinc (v := nI (y + 1)) (lv' := [(6, .int (nI (y + 1))), (0, .ref h), (2, .int (nI (x))), (3, .int (nI (r % fac (n - 1 - i)))), (4, .int (nI (i))), (5, .int (nI (r / fac (n - 1 - i))))]) hx hb dX1_permutation_86 hl (k := 5) rfl (nI_1 _) (by decide) rfl (fun ls hl => ?_)
                  refine lv_goto (tgt := 54) hx hb dX1_permutation_89 (by decide) ?_
                  exact ih_54 (y + 1) (by omega) (hr2.trans (by first | exact peY_n1 c_72 | exact peY_n2 c_83)) ls (lv_sub hl [1, 2, 3, 4, 5, 0] rfl)
        exact loop_54 7 0 (by omega) rfl ls (lv_sub hl [3, 4, 1, 5, 2, 0] rfl)
  exact loop_7 n 0 0 q (by omega) rfl (by decide) hq ls (lv_sub hl [3, 2, 1, 0] rfl)
theorem eX1_all : yX1_all.cls = RX1 ∧ yX1_all.cls ≠ "java/lang/invoke/MethodHandle" ∧ yX1_all.cls ≠ "java/lang/invoke/VarHandle" ∧ (parseMethodDescriptor yX1_all.desc).map (fun d => d.parameters.length) = some 0 := by decide +kernel
set_option maxHeartbeats 4000000 in
set_option maxRecDepth 100000 in
theorem kX1_all (hP : va_P D vwCl (mW cI cZ h fa ge inn wa (nI ct) (nI n) th gn iv wv) H) (hn : n ≤ 7) : pI l yX1_all wsX1_all ({ frames := 0, cells := 0, slots := 0, locals := 0 } : Room) [.ref h] D (gT cI cG cZ) H (nI (fac n)) := by
  refine pI_ofW (cc := cX1_all) (maxL := 1) (ret := (some .int)) (by decide) rfl (Or.inl rfl) (Nat.le_of_ble_eq_true rfl) ?_
  intro p e s m args below meth c QQ hx hb hml hown hts hK hret ls hl
  have hl : lv_has ls 1 [(0, .ref h)] := hl
  have hown : s.vm.findClass RX1 = some m.cls := hown
  have hin0 : ∀ w ∈ wsX10, w ∈ wsX1_all := fun w h => List.mem_cons_of_mem _ (List.mem_append_right _ h)
  have hl_factorials : (Cond.fieldLink RX1 7 "PermGroupModel" "factorials" "[I").before args s = true := hts _ (by decide +kernel)
  have hl_n : (Cond.fieldLink RX1 23 "PermGroupModel" "n" "I").before args s = true := hts _ (by decide +kernel)
  refine lv_aload_n hx hb dX1_all_0 rfl (lv_at hl 0 rfl) ?_
  refine va_get (D := D) (ci := 1) (v := .ref fa) (C := RX1) (T := TX1) (N := 7) hx hb hts hin0 hown hK hP 0 rfl rfl 0 (by decide) hl_factorials (fun _ h9 => h9) rfl dX1_all_1 ?_
  refine lv_aload_n hx hb dX1_all_4 rfl (lv_at hl 0 rfl) ?_
  refine va_get (D := D) (ci := 1) (v := .int (nI (n))) (C := RX1) (T := TX1) (N := 7) hx hb hts hin0 hown hK hP 0 rfl rfl 3 (by decide) hl_n (fun _ h9 => h9) rfl dX1_all_5 ?_
  refine va_iald hx hb hK hP 1 0 rfl rfl (vp_in_nI (by omega) (by omega)) dX1_all_8 ?_
  refine pu_tp (nb_clamp (f := facI) (by omega)) ?_
  refine pu_tp (z := nI (fac n)) (facI_eq hn) ?_
  exact hret _ _ _ (rfl) dX1_all_9
theorem eX1_below : yX1_below.cls = RX1 ∧ yX1_below.cls ≠ "java/lang/invoke/MethodHandle" ∧ yX1_below.cls ≠ "java/lang/invoke/VarHandle" ∧ (parseMethodDescriptor yX1_below.desc).map (fun d => d.parameters.length) = some 1 := by decide +kernel
set_option maxHeartbeats 4000000 in
set_option maxRecDepth 100000 in
theorem kX1_below (hP : va_P D vwCl (mW cI cZ h fa ge inn wa (nI ct) (nI n) th gn iv wv) H) {k : Nat} (hk : k ≤ 5040) : pI l yX1_below wsX1_below ({ frames := 0, cells := 0, slots := 0, locals := 0 } : Room) [.ref h, .int (nI (k))] D (gT cI cG cZ) H (nI (bl iv k)) := by
  refine pI_ofW (cc := cX1_below) (maxL := 4) (ret := (some .int)) (by decide) rfl (Or.inl rfl) (Nat.le_of_ble_eq_true rfl) ?_
  intro p e s m args below meth c QQ hx hb hml hown hts hK hret ls hl
  have hl : lv_has ls 4 [(0, .ref h), (1, .int (nI (k)))] := hl
  have hown : s.vm.findClass RX1 = some m.cls := hown
  have hin0 : ∀ w ∈ wsX10, w ∈ wsX1_below := fun w h => List.mem_cons_of_mem _ (List.mem_append_right _ h)
  have hl_in : (Cond.fieldLink RX1 16 "PermGroupModel" "in" "[Z").before args s = true := hts _ (by decide +kernel)
  refine lv_iconst (v := nI (0)) hx hb dX1_below_0 (by decide) ?_
  refine lv_istore_n (lv' := [(2, .int (nI (0))), (0, .ref h), (1, .int (nI (k)))]) hx hb dX1_below_1 rfl hl (by decide) rfl (fun ls hl => ?_)
  refine lv_iconst (v := nI (0)) hx hb dX1_below_2 (by decide) ?_
  refine lv_istore_n (lv' := [(3, .int (nI (0))), (2, .int (nI (0))), (0, .ref h), (1, .int (nI (k)))]) hx hb dX1_below_3 rfl hl (by decide) rfl (fun ls hl => ?_)
  have loop_4 : ∀ (j q x : Nat), (q + j = k) → (nI (bl iv k) = nI (blF iv j q x)) → ∀ (ls : Array Slot), lv_has ls 4 [(0, .ref h), (1, .int (nI (k))), (2, .int (nI (x))), (3, .int (nI (q)))] → W p l e ({ frames := 0, cells := 0, slots := 0, locals := 0 } : Room) s m args below meth c H [] 0 0 QQ (F0 m 4 ls []) := by
    intro j
    induction j with
    | zero =>
      intro q x hj hr ls hl
      refine lv_iload_n hx hb dX1_below_4 rfl (lv_at hl 3 rfl) ?_
      refine lv_iload_n hx hb dX1_below_5 rfl (lv_at hl 1 rfl) ?_
      refine lv_icmp_ge (tgt := 27) hx hb dX1_below_6 (by decide) (fun c_6 => ?_) (fun c_6 => ?_)
      ·
        have c_6 := (nI_leI (by omega) (by omega)).mp c_6
        refine lv_iload_n hx hb dX1_below_27 rfl (lv_at hl 2 rfl) ?_
        exact hret _ _ _ (hr.symm) dX1_below_28
      ·
        have c_6 : ¬ _ := fun h9 => c_6 ((nI_leI (by omega) (by omega)).mpr h9)
        exfalso; omega
    | succ j ih_4 =>
      intro q x hj hr ls hl
      refine lv_iload_n hx hb dX1_below_4 rfl (lv_at hl 3 rfl) ?_
      refine lv_iload_n hx hb dX1_below_5 rfl (lv_at hl 1 rfl) ?_
      refine lv_icmp_ge (tgt := 27) hx hb dX1_below_6 (by decide) (fun c_6 => ?_) (fun c_6 => ?_)
      ·
        have c_6 := (nI_leI (by omega) (by omega)).mp c_6
        exfalso; omega
      ·
        have c_6 : ¬ _ := fun h9 => c_6 ((nI_leI (by omega) (by omega)).mpr h9)
        refine lv_aload_n hx hb dX1_below_9 rfl (lv_at hl 0 rfl) ?_
        refine va_get (D := D) (ci := 1) (v := .ref inn) (C := RX1) (T := TX1) (N := 7) hx hb hts hin0 hown hK hP 0 rfl rfl 4 (by decide) hl_in (fun _ h9 => h9) rfl dX1_below_10 ?_
        refine lv_iload_n hx hb dX1_below_13 rfl (lv_at hl 3 rfl) ?_
        refine va_zald hx hb hK hP 3 2 rfl rfl (vp_in_nI (by omega) (by omega)) dX1_below_14 ?_
        refine pu_tp (nb_clamp (f := iv) (by omega)) ?_
        refine lv_if_eq (tgt := 21) hx hb dX1_below_15 (by decide) (fun c_15 => ?_) (fun c_15 => ?_)
        ·
          refine lv_iinc (v := nI (q + 1)) (lv' := [(3, .int (nI (q + 1))), (0, .ref h), (1, .int (nI (k))), (2, .int (nI (x)))]) hx hb dX1_below_21 hl (k := 3) rfl (nI_1 _) (by decide) rfl (fun ls hl => ?_)
          refine lv_goto (tgt := 4) hx hb dX1_below_24 (by decide) ?_
          exact ih_4 (q + 1) x (by omega) (hr.trans (congrArg nI (blF_n c_15))) ls (lv_sub hl [1, 2, 3, 0] rfl)
        ·
          refine lv_iinc (v := nI (x + 1)) (lv' := [(2, .int (nI (x + 1))), (0, .ref h), (1, .int (nI (k))), (3, .int (nI (q)))]) hx hb dX1_below_18 hl (k := 2) rfl (nI_1 _) (by decide) rfl (fun ls hl => ?_)
          refine lv_iinc (v := nI (q + 1)) (lv' := [(3, .int (nI (q + 1))), (2, .int (nI (x + 1))), (0, .ref h), (1, .int (nI (k)))]) hx hb dX1_below_21 hl (k := 3) rfl (nI_1 _) (by decide) rfl (fun ls hl => ?_)
          refine lv_goto (tgt := 4) hx hb dX1_below_24 (by decide) ?_
          exact ih_4 (q + 1) (x + 1) (by omega) (hr.trans (congrArg nI (blF_y c_15))) ls (lv_sub hl [2, 3, 1, 0] rfl)
  exact loop_4 k 0 0 (by omega) rfl ls (lv_sub hl [2, 3, 1, 0] rfl)
theorem eX1_degree : yX1_degree.cls = RX1 ∧ yX1_degree.cls ≠ "java/lang/invoke/MethodHandle" ∧ yX1_degree.cls ≠ "java/lang/invoke/VarHandle" ∧ (parseMethodDescriptor yX1_degree.desc).map (fun d => d.parameters.length) = some 0 := by decide +kernel
set_option maxHeartbeats 4000000 in
set_option maxRecDepth 100000 in
theorem kX1_degree (hP : va_P D vwCl (mW cI cZ h fa ge inn wa (nI ct) (nI n) th gn iv wv) H)  : pI l yX1_degree wsX1_degree ({ frames := 0, cells := 0, slots := 0, locals := 0 } : Room) [.ref h] D (gT cI cG cZ) H (nI n) := by
  refine pI_ofW (cc := cX1_degree) (maxL := 1) (ret := (some .int)) (by decide) rfl (Or.inl rfl) (Nat.le_of_ble_eq_true rfl) ?_
  intro p e s m args below meth c QQ hx hb hml hown hts hK hret ls hl
  have hl : lv_has ls 1 [(0, .ref h)] := hl
  have hown : s.vm.findClass RX1 = some m.cls := hown
  have hin0 : ∀ w ∈ wsX10, w ∈ wsX1_degree := fun w h => List.mem_cons_of_mem _ (List.mem_append_right _ h)
  have hl_n : (Cond.fieldLink RX1 23 "PermGroupModel" "n" "I").before args s = true := hts _ (by decide +kernel)
  refine lv_aload_n hx hb dX1_degree_0 rfl (lv_at hl 0 rfl) ?_
  refine va_get (D := D) (ci := 1) (v := .int (nI (n))) (C := RX1) (T := TX1) (N := 7) hx hb hts hin0 hown hK hP 0 rfl rfl 3 (by decide) hl_n (fun _ h9 => h9) rfl dX1_degree_1 ?_
  exact hret _ _ _ (rfl) dX1_degree_4
theorem eX1_generators : yX1_generators.cls = RX1 ∧ yX1_generators.cls ≠ "java/lang/invoke/MethodHandle" ∧ yX1_generators.cls ≠ "java/lang/invoke/VarHandle" ∧ (parseMethodDescriptor yX1_generators.desc).map (fun d => d.parameters.length) = some 0 := by decide +kernel
set_option maxHeartbeats 4000000 in
set_option maxRecDepth 100000 in
theorem kX1_generators (hP : va_P D vwCl (mW cI cZ h fa ge inn wa (nI ct) (nI n) th gn iv wv) H)  : pI l yX1_generators wsX1_generators ({ frames := 0, cells := 0, slots := 0, locals := 0 } : Room) [.ref h] D (gT cI cG cZ) H (nI ct) := by
  refine pI_ofW (cc := cX1_generators) (maxL := 1) (ret := (some .int)) (by decide) rfl (Or.inl rfl) (Nat.le_of_ble_eq_true rfl) ?_
  intro p e s m args below meth c QQ hx hb hml hown hts hK hret ls hl
  have hl : lv_has ls 1 [(0, .ref h)] := hl
  have hown : s.vm.findClass RX1 = some m.cls := hown
  have hin0 : ∀ w ∈ wsX10, w ∈ wsX1_generators := fun w h => List.mem_cons_of_mem _ (List.mem_append_right _ h)
  have hl_count : (Cond.fieldLink RX1 43 "PermGroupModel" "count" "I").before args s = true := hts _ (by decide +kernel)
  refine lv_aload_n hx hb dX1_generators_0 rfl (lv_at hl 0 rfl) ?_
  refine va_get (D := D) (ci := 1) (v := .int (nI (ct))) (C := RX1) (T := TX1) (N := 7) hx hb hts hin0 hown hK hP 0 rfl rfl 2 (by decide) hl_count (fun _ h9 => h9) rfl dX1_generators_1 ?_
  exact hret _ _ _ (rfl) dX1_generators_4
theorem eX1_thrown : yX1_thrown.cls = RX1 ∧ yX1_thrown.cls ≠ "java/lang/invoke/MethodHandle" ∧ yX1_thrown.cls ≠ "java/lang/invoke/VarHandle" ∧ (parseMethodDescriptor yX1_thrown.desc).map (fun d => d.parameters.length) = some 0 := by decide +kernel
set_option maxHeartbeats 4000000 in
set_option maxRecDepth 100000 in
theorem kX1_thrown (hP : va_P D vwCl (mW cI cZ h fa ge inn wa (nI ct) (nI n) th gn iv wv) H)  : pI l yX1_thrown wsX1_thrown ({ frames := 0, cells := 0, slots := 0, locals := 0 } : Room) [.ref h] D (gT cI cG cZ) H (th) := by
  refine pI_ofW (cc := cX1_thrown) (maxL := 1) (ret := (some .int)) (by decide) rfl (Or.inl rfl) (Nat.le_of_ble_eq_true rfl) ?_
  intro p e s m args below meth c QQ hx hb hml hown hts hK hret ls hl
  have hl : lv_has ls 1 [(0, .ref h)] := hl
  have hown : s.vm.findClass RX1 = some m.cls := hown
  have hin0 : ∀ w ∈ wsX10, w ∈ wsX1_thrown := fun w h => List.mem_cons_of_mem _ (List.mem_append_right _ h)
  have hl_thrown : (Cond.fieldLink RX1 69 "PermGroupModel" "thrown" "I").before args s = true := hts _ (by decide +kernel)
  refine lv_aload_n hx hb dX1_thrown_0 rfl (lv_at hl 0 rfl) ?_
  refine va_get (D := D) (ci := 1) (v := .int (th)) (C := RX1) (T := TX1) (N := 7) hx hb hts hin0 hown hK hP 0 rfl rfl 6 (by decide) hl_thrown (fun _ h9 => h9) rfl dX1_thrown_1 ?_
  exact hret _ _ _ (rfl) dX1_thrown_4
theorem eX1_generator : yX1_generator.cls = RX1 ∧ yX1_generator.cls ≠ "java/lang/invoke/MethodHandle" ∧ yX1_generator.cls ≠ "java/lang/invoke/VarHandle" ∧ (parseMethodDescriptor yX1_generator.desc).map (fun d => d.parameters.length) = some 1 := by decide +kernel
set_option maxHeartbeats 4000000 in
set_option maxRecDepth 100000 in
theorem kX1_generator (hP : va_P D vwCl (mW cI cZ h fa ge inn wa (nI ct) (nI n) th gn iv wv) H) (hc : ct ≤ 12) {k : Int32} : pI l yX1_generator wsX1_generator ({ frames := 0, cells := 0, slots := 0, locals := 0 } : Room) [.ref h, .int (k)] D (gT cI cG cZ) H (genI gn ct k) := by
  refine pI_ofW (cc := cX1_generator) (maxL := 2) (ret := (some .int)) (by decide) rfl (Or.inl rfl) (Nat.le_of_ble_eq_true rfl) ?_
  intro p e s m args below meth c QQ hx hb hml hown hts hK hret ls hl
  have hl : lv_has ls 2 [(0, .ref h), (1, .int (k))] := hl
  have hown : s.vm.findClass RX1 = some m.cls := hown
  have hin0 : ∀ w ∈ wsX10, w ∈ wsX1_generator := fun w h => List.mem_cons_of_mem _ (List.mem_append_right _ h)
  have hl_count : (Cond.fieldLink RX1 43 "PermGroupModel" "count" "I").before args s = true := hts _ (by decide +kernel)
  have hl_gens : (Cond.fieldLink RX1 13 "PermGroupModel" "gens" "[I").before args s = true := hts _ (by decide +kernel)
  refine lv_iload_n hx hb dX1_generator_0 rfl (lv_at hl 1 rfl) ?_
  refine lv_if_lt (tgt := 21) hx hb dX1_generator_1 (by decide) (fun c_1 => ?_) (fun c_1 => ?_)
  ·
    refine lv_iconst (v := -1) hx hb dX1_generator_21 (by decide) ?_
    exact hret _ _ _ (by first | exact (if_pos c_1).symm | exact ((if_neg c_1).trans (if_neg (Int32.not_lt.mpr c_9))).symm) dX1_generator_22
  ·
    refine lv_iload_n hx hb dX1_generator_4 rfl (lv_at hl 1 rfl) ?_
    refine lv_aload_n hx hb dX1_generator_5 rfl (lv_at hl 0 rfl) ?_
    refine va_get (D := D) (ci := 1) (v := .int (nI (ct))) (C := RX1) (T := TX1) (N := 7) hx hb hts hin0 hown hK hP 0 rfl rfl 2 (by decide) hl_count (fun _ h9 => h9) rfl dX1_generator_6 ?_
    refine lv_icmp_ge (tgt := 21) hx hb dX1_generator_9 (by decide) (fun c_9 => ?_) (fun c_9 => ?_)
    ·
      refine lv_iconst (v := -1) hx hb dX1_generator_21 (by decide) ?_
      exact hret _ _ _ (by first | exact (if_pos c_1).symm | exact ((if_neg c_1).trans (if_neg (Int32.not_lt.mpr c_9))).symm) dX1_generator_22
    ·
      have c_9 := Int32.not_le.mp c_9
      obtain ⟨X, hX, rfl⟩ := nb_ix c_1 c_9 (by omega)
      refine lv_aload_n hx hb dX1_generator_12 rfl (lv_at hl 0 rfl) ?_
      refine va_get (D := D) (ci := 1) (v := .ref ge) (C := RX1) (T := TX1) (N := 7) hx hb hts hin0 hown hK hP 0 rfl rfl 1 (by decide) hl_gens (fun _ h9 => h9) rfl dX1_generator_13 ?_
      refine lv_iload_n hx hb dX1_generator_16 rfl (lv_at hl 1 rfl) ?_
      refine va_iald hx hb hK hP 2 0 rfl rfl (vp_in_nI (by omega) (by omega)) dX1_generator_17 ?_
      refine pu_tp (nb_clamp (f := gn) (by omega)) ?_
      refine lv_goto (tgt := 22) hx hb dX1_generator_18 (by decide) ?_
      exact hret _ _ _ (by rw [genI, if_neg c_1, if_pos c_9, tn_nI (by omega)]) dX1_generator_22
theorem eX1_product : yX1_product.cls = RX1 ∧ yX1_product.cls ≠ "java/lang/invoke/MethodHandle" ∧ yX1_product.cls ≠ "java/lang/invoke/VarHandle" ∧ (parseMethodDescriptor yX1_product.desc).map (fun d => d.parameters.length) = some 2 := by decide +kernel
set_option maxHeartbeats 4000000 in
set_option maxRecDepth 100000 in
theorem kX1_product (hP : va_P D vwCl (mW cI cZ h fa ge inn wa (nI ct) (nI n) th gn iv wv) H) (hn : n ≤ 7) {P Q : Nat} (hp : P < 2 ^ 32) (hq : Q < 2 ^ 32) : pI l yX1_product wsX1_product ({ frames := 2, cells := 0, slots := 0, locals := 45 } : Room) [.ref h, .int (nI (P)), .int (nI (Q))] D (gT cI cG cZ) H (if isP n P = true ∧ isP n Q = true then nI (tm n P Q) else -1) := by
  refine pI_ofW (cc := cX1_product) (maxL := 3) (ret := (some .int)) (by decide) rfl (Or.inl rfl) (Nat.le_of_ble_eq_true rfl) ?_
  intro p e s m args below meth c QQ hx hb hml hown hts hK hret ls hl
  have hl : lv_has ls 3 [(0, .ref h), (1, .int (nI (P))), (2, .int (nI (Q)))] := hl
  have hown : s.vm.findClass RX1 = some m.cls := hown
  refine lv_aload_n hx hb dX1_product_0 rfl (lv_at hl 0 rfl) ?_
  refine lv_iload_n hx hb dX1_product_1 rfl (lv_at hl 1 rfl) ?_
  refine pu_V (As := [.int (nI (P))]) (rest := []) (b := h) ⟨hx, hb, hml, hown, hts⟩ (kX1_isPermutation hP hn (P := P) hp) (cwV 1 hts gX1_product_X1_isPermutation rfl rfl rfl eX1_isPermutation ⟨by decide, by decide⟩) (va_recv hK hP (ci := 1) (q0 := 0) rfl rfl) hK rfl hl.1 rfl (Nat.le_of_ble_eq_true rfl) dX1_product_2 ⟨Nat.zero_le _, Nat.zero_le _⟩ ?_
  refine lv_if_eq (tgt := 25) hx hb dX1_product_5 (by decide) (fun c_5 => ?_) (fun c_5 => ?_)
  ·
    have c_5 := b01_f c_5
    refine lv_iconst (v := -1) hx hb dX1_product_25 (by decide) ?_
    exact hret _ _ _ (by first | exact (if_neg (fun q => by rw [c_5] at q; exact absurd q.1 (by decide))).symm | exact (if_neg (fun q => by rw [c_13] at q; exact absurd q.2 (by decide))).symm) dX1_product_26
  ·
    have c_5 := b01_t c_5
    refine lv_aload_n hx hb dX1_product_8 rfl (lv_at hl 0 rfl) ?_
    refine lv_iload_n hx hb dX1_product_9 rfl (lv_at hl 2 rfl) ?_
    refine pu_V (As := [.int (nI (Q))]) (rest := []) (b := h) ⟨hx, hb, hml, hown, hts⟩ (kX1_isPermutation hP hn (P := Q) hq) (cwV 1 hts gX1_product_X1_isPermutation rfl rfl rfl eX1_isPermutation ⟨by decide, by decide⟩) (va_recv hK hP (ci := 1) (q0 := 0) rfl rfl) hK rfl hl.1 rfl (Nat.le_of_ble_eq_true rfl) dX1_product_10 ⟨Nat.zero_le _, Nat.zero_le _⟩ ?_
    refine lv_if_eq (tgt := 25) hx hb dX1_product_13 (by decide) (fun c_13 => ?_) (fun c_13 => ?_)
    ·
      have c_13 := b01_f c_13
      refine lv_iconst (v := -1) hx hb dX1_product_25 (by decide) ?_
      exact hret _ _ _ (by first | exact (if_neg (fun q => by rw [c_5] at q; exact absurd q.1 (by decide))).symm | exact (if_neg (fun q => by rw [c_13] at q; exact absurd q.2 (by decide))).symm) dX1_product_26
    ·
      have c_13 := b01_t c_13
      refine lv_aload_n hx hb dX1_product_16 rfl (lv_at hl 0 rfl) ?_
      refine lv_iload_n hx hb dX1_product_17 rfl (lv_at hl 1 rfl) ?_
      refine lv_iload_n hx hb dX1_product_18 rfl (lv_at hl 2 rfl) ?_
      refine pu_V (As := [.int (nI (P)), .int (nI (Q))]) (rest := []) (b := h) ⟨hx, hb, hml, hown, hts⟩ (kX1_times hP hn (P := P) (Q := Q) (Nat.lt_trans (isP_lt hn c_5) (by decide)) (Nat.lt_trans (isP_lt hn c_13) (by decide))) (cwV 2 hts gX1_product_X1_times rfl rfl rfl eX1_times ⟨by decide, by decide⟩) (va_recv hK hP (ci := 1) (q0 := 0) rfl rfl) hK rfl hl.1 rfl (Nat.le_of_ble_eq_true rfl) dX1_product_19 ⟨Nat.zero_le _, Nat.zero_le _⟩ ?_
      refine lv_goto (tgt := 26) hx hb dX1_product_22 (by decide) ?_
      exact hret _ _ _ ((if_pos ⟨c_5, c_13⟩).symm) dX1_product_26
theorem eX1_inverse : yX1_inverse.cls = RX1 ∧ yX1_inverse.cls ≠ "java/lang/invoke/MethodHandle" ∧ yX1_inverse.cls ≠ "java/lang/invoke/VarHandle" ∧ (parseMethodDescriptor yX1_inverse.desc).map (fun d => d.parameters.length) = some 1 := by decide +kernel
set_option maxHeartbeats 4000000 in
set_option maxRecDepth 100000 in
theorem kX1_inverse (hP : va_P D vwCl (mW cI cZ h fa ge inn wa (nI ct) (nI n) th gn iv wv) H) (hn : n ≤ 7) {P : Nat} (hp : P < 2 ^ 32) : pI l yX1_inverse wsX1_inverse ({ frames := 2, cells := 0, slots := 0, locals := 44 } : Room) [.ref h, .int (nI (P))] D (gT cI cG cZ) H (if isP n P = true then nI (bk n P) else -1) := by
  refine pI_ofW (cc := cX1_inverse) (maxL := 2) (ret := (some .int)) (by decide) rfl (Or.inl rfl) (Nat.le_of_ble_eq_true rfl) ?_
  intro p e s m args below meth c QQ hx hb hml hown hts hK hret ls hl
  have hl : lv_has ls 2 [(0, .ref h), (1, .int (nI (P)))] := hl
  have hown : s.vm.findClass RX1 = some m.cls := hown
  refine lv_aload_n hx hb dX1_inverse_0 rfl (lv_at hl 0 rfl) ?_
  refine lv_iload_n hx hb dX1_inverse_1 rfl (lv_at hl 1 rfl) ?_
  refine pu_V (As := [.int (nI (P))]) (rest := []) (b := h) ⟨hx, hb, hml, hown, hts⟩ (kX1_isPermutation hP hn (P := P) hp) (cwV 1 hts gX1_inverse_X1_isPermutation rfl rfl rfl eX1_isPermutation ⟨by decide, by decide⟩) (va_recv hK hP (ci := 1) (q0 := 0) rfl rfl) hK rfl hl.1 rfl (Nat.le_of_ble_eq_true rfl) dX1_inverse_2 ⟨Nat.zero_le _, Nat.zero_le _⟩ ?_
  refine lv_if_eq (tgt := 16) hx hb dX1_inverse_5 (by decide) (fun c_5 => ?_) (fun c_5 => ?_)
  ·
    have c_5 := b01_f c_5
    refine lv_iconst (v := -1) hx hb dX1_inverse_16 (by decide) ?_
    exact hret _ _ _ (by rw [c_5]; rfl) dX1_inverse_17
  ·
    have c_5 := b01_t c_5
    refine lv_aload_n hx hb dX1_inverse_8 rfl (lv_at hl 0 rfl) ?_
    refine lv_iload_n hx hb dX1_inverse_9 rfl (lv_at hl 1 rfl) ?_
    refine pu_V (As := [.int (nI (P))]) (rest := []) (b := h) ⟨hx, hb, hml, hown, hts⟩ (kX1_back hP hn (P := P) (Nat.lt_trans (isP_lt hn c_5) (by decide))) (cwV 1 hts gX1_inverse_X1_back rfl rfl rfl eX1_back ⟨by decide, by decide⟩) (va_recv hK hP (ci := 1) (q0 := 0) rfl rfl) hK rfl hl.1 rfl (Nat.le_of_ble_eq_true rfl) dX1_inverse_10 ⟨Nat.zero_le _, Nat.zero_le _⟩ ?_
    refine lv_goto (tgt := 17) hx hb dX1_inverse_13 (by decide) ?_
    exact hret _ _ _ ((if_pos c_5).symm) dX1_inverse_17
end CXC
end
section
/-! ===== the class's writing methods: what they make of (row, filled, filledCount) ===== -/
def upR (R : Nat → Nat → Int32) (i : Nat) (r : Nat → Int32) : Nat → Nat → Int32 := fun j => if j = i then r else R j
theorem upR_s (R : Nat → Nat → Int32) (i : Nat) (r : Nat → Int32) : upR R i r i = r := if_pos rfl
theorem upR_n (R : Nat → Nat → Int32) {i j : Nat} (r : Nat → Int32) (h : j ≠ i) : upR R i r j = R j := if_neg h
theorem upR_u (R : Nat → Nat → Int32) (i : Nat) (r r2 : Nat → Int32) : upR (upR R i r) i r2 = upR R i r2 := by
  funext j
  by_cases h : j = i
  · simp [upR, h]
  · simp [upR, h]
theorem upR_id (R : Nat → Nat → Int32) (i : Nat) : upR R i (R i) = R := by
  funext j
  by_cases h : j = i
  · rw [h]; exact upR_s _ _ _
  · exact upR_n _ _ h
abbrev CS : Type := (Nat → Int32) × (Nat → Int32) × Nat
def ntS (s : Nat) (u : CS) : CS := if u.2.2 < 21 then (u.1, upd u.2.1 u.2.2 (nI s), u.2.2 + 1) else u
def lfI (lv : Nat) : Nat → Nat → CS → CS
  | 0, _, u => u
  | k + 1, x, u => lfI lv k (x + 1) (if u.1 (lv * 8 + x) = -1 then u else ntS (lv * 8 + x) u)
def lfF (n : Nat) : Nat → Nat → CS → CS
  | 0, _, u => u
  | k + 1, lv, u => lfF n k (lv + 1) (lfI lv (n - (lv + 1)) (lv + 1) u)
def enL (r : Nat) : Nat → Nat → CS → CS
  | 0, _, u => u
  | k + 1, lv, u => if im r lv = lv then enL r k (lv + 1) u else ntS (lv * 8 + im r lv) (upd u.1 (lv * 8 + im r lv) (nI r), u.2.1, u.2.2)
def enS (n P : Nat) (u : CS) : CS := enL (rs u.1 n P) n 0 u
def epS (n s o : Nat) (u : CS) : CS := if s / 8 ≤ o / 8 then enS n (tm n (tn (u.1 s)) (tn (u.1 o))) u else u
def exT (n a b : Nat) (u : CS) : CS := epS n (tn (u.2.1 a)) (tn (u.2.1 b)) u
def exI (n a : Nat) : Nat → Nat → CS → CS
  | 0, _, u => u
  | k + 1, b, u => exI n a k (b + 1) (exT n b a (exT n a b u))
def exF (n : Nat) : Nat → Nat → CS → CS
  | 0, _, u => u
  | k + 1, a, u => if u.2.2 ≤ a ∨ n * (n - 1) / 2 ≤ u.2.2 then u else exF n k (a + 1) (exI n a (a + 1) 0 u)
def exS (n P : Nat) (r fl : Nat → Int32) : CS := exF n (21 - (lfF n n 0 (r, fl, 0)).2.2) (lfF n n 0 (r, fl, 0)).2.2 (enS n P (lfF n n 0 (r, fl, 0)))
/-- the noted slots are slots -/
def sOK (u : CS) : Prop := u.2.2 ≤ 21 ∧ ∀ j, j < u.2.2 → ∃ s, s < 56 ∧ u.2.1 j = nI s
theorem sOK_nt {s : Nat} {u : CS} (hs : s < 56) (h : sOK u) : sOK (ntS s u) := by
  unfold ntS
  by_cases c : u.2.2 < 21
  · rw [if_pos c]
    refine ⟨by show u.2.2 + 1 ≤ 21; omega, fun j hj => ?_⟩
    by_cases e : j = u.2.2
    · exact ⟨s, hs, by show upd u.2.1 u.2.2 (nI s) j = _; rw [e]; exact pk_us⟩
    · obtain ⟨z, h1, h2⟩ := h.2 j (by have : j < u.2.2 + 1 := hj; omega)
      exact ⟨z, h1, by show upd u.2.1 u.2.2 (nI s) j = _; rw [pk_un e]; exact h2⟩
  · rw [if_neg c]; exact h
theorem sOK_row {f g fl : Nat → Int32} {c : Nat} (h : sOK (f, fl, c)) : sOK (g, fl, c) := h
theorem ntS_le (s : Nat) (u : CS) : u.2.2 ≤ (ntS s u).2.2 := by
  unfold ntS
  by_cases c : u.2.2 < 21
  · rw [if_pos c]; exact Nat.le_succ _
  · rw [if_neg c]; exact Nat.le_refl _
theorem sOK_en (r : Nat) : ∀ k lv u, lv + k ≤ 7 → sOK u → sOK (enL r k lv u)
  | 0, _, _, _, h => h
  | k + 1, lv, u, hk, h => by
      show sOK (if im r lv = lv then enL r k (lv + 1) u else ntS (lv * 8 + im r lv) (upd u.1 (lv * 8 + im r lv) (nI r), u.2.1, u.2.2))
      split
      · exact sOK_en r k (lv + 1) u (by omega) h
      · exact sOK_nt (by have := im_lt r lv; omega) (sOK_row h)
theorem enL_le (r : Nat) : ∀ k lv u, u.2.2 ≤ (enL r k lv u).2.2
  | 0, _, _ => Nat.le_refl _
  | k + 1, lv, u => by
      show u.2.2 ≤ (if im r lv = lv then enL r k (lv + 1) u else ntS (lv * 8 + im r lv) (upd u.1 (lv * 8 + im r lv) (nI r), u.2.1, u.2.2)).2.2
      split
      · exact enL_le r k (lv + 1) u
      · exact ntS_le _ (upd u.1 (lv * 8 + im r lv) (nI r), u.2.1, u.2.2)
theorem sOK_ep {n s o : Nat} {u : CS} (hn : n ≤ 7) (h : sOK u) : sOK (epS n s o u) := by
  unfold epS
  split
  · exact sOK_en _ n 0 u (by omega) h
  · exact h
theorem epS_le (n s o : Nat) (u : CS) : u.2.2 ≤ (epS n s o u).2.2 := by
  unfold epS
  split
  · exact enL_le _ n 0 u
  · exact Nat.le_refl _
theorem sOK_lfI {lv : Nat} (hlv : lv < 7) : ∀ k x u, x + k ≤ 8 → sOK u → sOK (lfI lv k x u)
  | 0, _, _, _, h => h
  | k + 1, x, u, hk, h => by
      show sOK (lfI lv k (x + 1) (if u.1 (lv * 8 + x) = -1 then u else ntS (lv * 8 + x) u))
      refine sOK_lfI hlv k (x + 1) _ (by omega) ?_
      split
      · exact h
      · exact sOK_nt (by omega) h
theorem sOK_lf {n : Nat} (hn : n ≤ 7) : ∀ k lv u, lv + k = n → sOK u → sOK (lfF n k lv u)
  | 0, _, _, _, h => h
  | k + 1, lv, u, hk, h => sOK_lf hn k (lv + 1) _ (by omega) (sOK_lfI (by omega) _ _ _ (by omega) h)
theorem sOK_0 (r fl : Nat → Int32) : sOK (r, fl, 0) := ⟨Nat.zero_le _, fun j hj => absurd hj (Nat.not_lt_zero _)⟩
theorem gW_set {cI cG : ClassId} {h a g f : Nat} {ra : Nat → Nat} {n id ct fc : Int32} {ad fl : Nat → Int32} {R : Nat → Nat → Int32} {i : Nat} {r : Nat → Int32} (hi : i < 13) : (gW cI cG h a g f ra n id ct fc ad fl R).set (i + 4) (ra i, .inl (cI, 56, .inl r)) = gW cI cG h a g f ra n id ct fc ad fl (upR R i r) := by
  have key : ((List.range 13).map (fun i => ((ra i, .inl (cI, 56, .inl (R i))) : Nat × va_E))).set i (ra i, .inl (cI, 56, .inl r)) = (List.range 13).map (fun j => ((ra j, .inl (cI, 56, .inl (upR R i r j))) : Nat × va_E)) := by
    apply List.ext_getElem?
    intro j
    rw [List.getElem?_set]
    by_cases e : i = j
    · subst e
      rw [if_pos rfl, if_pos (by simpa using hi), List.getElem?_map, List.getElem?_range hi]
      show _ = some (ra i, Sum.inl (cI, 56, Sum.inl (upR R i r i)))
      rw [upR_s]
    · rw [if_neg e, List.getElem?_map, List.getElem?_map]
      cases hj : (List.range 13)[j]? with
      | none => rfl
      | some z =>
        have hz : z = j := by
          have := List.getElem?_eq_some_iff.mp hj
          obtain ⟨h1, h2⟩ := this
          rw [List.getElem_range] at h2
          exact h2.symm
        subst hz
        show some (ra z, Sum.inl (cI, 56, Sum.inl (R z))) = some (ra z, Sum.inl (cI, 56, Sum.inl (upR R i r z)))
        rw [upR_n R r (fun q => e q.symm)]
  exact congrArg (fun t => (h, Sum.inr (0, [.int n, .int id, .int ct, .ref a, .ref g, .ref f, .int fc])) :: (a, Sum.inl (cI, 12, Sum.inl ad)) :: (g, Sum.inl (cG, 13, Sum.inr (Sum.inr (Sum.inr (Sum.inr (fun i => if i < 13 then some (ra i) else none)))))) :: (f, Sum.inl (cI, 21, Sum.inl fl)) :: t) key
theorem gW_addr {A : Nat → Prop} {cI cG : ClassId} {h a g f : Nat} {ra : Nat → Nat} {n id ct fc n2 id2 ct2 fc2 : Int32} {ad fl ad2 fl2 : Nat → Int32} {R R2 : Nat → Nat → Int32} (hD : va_D A (gW cI cG h a g f ra n id ct fc ad fl R)) : va_D A (gW cI cG h a g f ra n2 id2 ct2 fc2 ad2 fl2 R2) := va_D_addr (by simp [gW, List.map_map, Function.comp_def]) hD
theorem mW_addr {A : Nat → Prop} {cI cZ : ClassId} {h fa ge inn wa : Nat} {ct n th ct2 n2 th2 : Int32} {gn iv wv gn2 iv2 wv2 : Nat → Int32} (hD : va_D A (mW cI cZ h fa ge inn wa ct n th gn iv wv)) : va_D A (mW cI cZ h fa ge inn wa ct2 n2 th2 gn2 iv2 wv2) := va_D_addr (by simp [mW]) hD
section GRS
variable {p : Program} {l : Launch} {e : Env} {rm : Room} {s : State} {m : MethodId} {args : Array Value} {below : List Frame} {meth : Method} {c : Code} {H H0 : Heap} {locs : List Loc} {cells slots : Nat} {Q : State → Prop} {cc : ByteArray} {pc : Nat} {ls : Array Slot} {rest : List Value} {A : Nat → Prop}
variable {D : va_G} {cI cG cZ : ClassId} {h a g f : Nat} {ra : Nat → Nat} {n id ct fc : Int32} {ad fl : Nat → Int32} {R : Nat → Nat → Int32}
/-- a store into row i -/
theorem ua_row (hx : p.tables.exec = Jvm.exec) (hb : c.code = cc) (hK : va_K D vwCl (gT cI cG cZ) s) (hP : va_P D vwCl (gW cI cG h a g f ra n id ct fc ad fl R) H) (hD : va_D A (gW cI cG h a g f ra n id ct fc ad fl R)) (hS : va_S A H0 H locs) {i j : Nat} {x : Int32} (hi : i < 13) (hj : j < 56) (hdg : decode cc pc = .ok (.iastore, 1))
    (kk : ∀ (H1 : Heap) (locs1 : List Loc), va_P D vwCl (gW cI cG h a g f ra n id ct fc ad fl (upR R i (upd (R i) j x))) H1 → va_D A (gW cI cG h a g f ra n id ct fc ad fl (upR R i (upd (R i) j x))) → va_S A H0 H1 locs1 → W p l e rm s m args below meth c H1 locs1 cells slots Q (F0 m (pc + 1) ls rest)) : W p l e rm s m args below meth c H locs cells slots Q (F0 m pc ls (.int x :: .int (nI j) :: .ref (ra i) :: rest)) := by
  refine ua_iast hx hb hK hP hD hS (i + 4) 0 (gW_row hi) rfl hj (by decide) hdg (fun H1 locs1 hP1 hD1 hS1 => ?_)
  rw [gW_set hi] at hP1 hD1
  exact kk H1 locs1 hP1 hD1 hS1
end GRS
theorem ntS_1 (s : Nat) (u : CS) : (ntS s u).1 = u.1 := by
  unfold ntS
  split <;> rfl
theorem lfI_n {lv k x : Nat} {u : CS} (c : u.1 (lv * 8 + x) = -1) : lfI lv (k + 1) x u = lfI lv k (x + 1) u := by show lfI lv k (x + 1) (if u.1 (lv * 8 + x) = -1 then u else ntS (lv * 8 + x) u) = _; rw [if_pos c]
theorem lfI_y {lv k x : Nat} {u : CS} (c : ¬ u.1 (lv * 8 + x) = -1) : lfI lv (k + 1) x u = lfI lv k (x + 1) (ntS (lv * 8 + x) u) := by show lfI lv k (x + 1) (if u.1 (lv * 8 + x) = -1 then u else ntS (lv * 8 + x) u) = _; rw [if_neg c]
theorem sl_lt {u : CS} {i : Nat} (h : sOK u) (hi : i < u.2.2) : tn (u.2.1 i) < 56 := by
  obtain ⟨z, h1, h2⟩ := h.2 i hi
  rw [h2, tn_nI (by omega)]
  exact h1
def bgR (n j : Nat) : Int32 := if j / 8 < n ∧ j % 8 = j / 8 then nI (idn n) else -1
end
section
section CXD
variable {l : Launch} {D : va_G} {cI cG cZ : ClassId} {h a g f : Nat} {ra : Nat → Nat} {n id ct fc : Nat} {ad fl : Nat → Int32} {R : Nat → Nat → Int32}
theorem eX0_noteFilled : yX0_noteFilled.cls = RX0 ∧ yX0_noteFilled.cls ≠ "java/lang/invoke/MethodHandle" ∧ yX0_noteFilled.cls ≠ "java/lang/invoke/VarHandle" ∧ (parseMethodDescriptor yX0_noteFilled.desc).map (fun d => d.parameters.length) = some 1 := by decide +kernel
set_option maxHeartbeats 4000000 in
set_option maxRecDepth 100000 in
theorem kX0_noteFilled (hfc : fc ≤ 21) {z : Nat} : mV (S := CS) l yX0_noteFilled wsX0_noteFilled ({ frames := 0, cells := 0, slots := 0, locals := 0 } : Room) [.ref h, .int (nI (z))] D (gT cI cG cZ) (gW cI cG h a g f ra (nI (n)) (nI (id)) (nI (ct)) (nI (fc)) (ad) (fl) (R)) (fun u => gW cI cG h a g f ra (nI n) (nI id) (nI ct) (nI u.2.2) ad u.2.1 (upR R ct u.1)) (fun u => u = ntS z (R ct, fl, fc)) := by
  refine mV_ofW (cc := cX0_noteFilled) (maxL := 2) (by decide) rfl (Nat.le_of_ble_eq_true rfl) ?_
  intro p e s m args below meth c QQ hx hb hml hown hts hK hP hD hS hret ls hl
  have hl : lv_has ls 2 [(0, .ref h), (1, .int (nI (z)))] := hl
  have hown : s.vm.findClass RX0 = some m.cls := hown
  have hin0 : ∀ w ∈ wsX00, w ∈ wsX0_noteFilled := fun w h => List.mem_cons_of_mem _ (List.mem_append_right _ h)
  have hl_filled : (Cond.fieldLink RX0 18 "PermGroup" "filled" "[I").before args s = true := hts _ (by decide +kernel)
  have hl_filledCount : (Cond.fieldLink RX0 106 "PermGroup" "filledCount" "I").before args s = true := hts _ (by decide +kernel)
  generalize inW (gW cI cG h a g f ra (nI (n)) (nI (id)) (nI (ct)) (nI (fc)) (ad) (fl) (R)) = A at hD hS hret
  suffices start : ∀ (H : Heap) (locs : List Loc), va_P D vwCl (gW cI cG h a g f ra (nI (n)) (nI (id)) (nI (ct)) (nI (fc)) (ad) (fl) (R)) H → va_D A (gW cI cG h a g f ra (nI (n)) (nI (id)) (nI (ct)) (nI (fc)) (ad) (fl) (R)) → va_S A s.heap H locs → W p l e ({ frames := 0, cells := 0, slots := 0, locals := 0 } : Room) s m args below meth c H locs 0 0 QQ (F0 m 0 ls []) from start s.heap [] hP hD hS
  clear hP hD hS
  intro H locs hP hD hS
  refine lv_aload_n hx hb dX0_noteFilled_0 rfl (lv_at hl 0 rfl) ?_
  refine va_get (D := D) (ci := 0) (v := .int (nI (fc))) (C := RX0) (T := TX0) (N := 7) hx hb hts hin0 hown hK hP 0 rfl rfl 6 (by decide) hl_filledCount (fun _ h9 => h9) rfl dX0_noteFilled_1 ?_
  refine lv_bipush (v := nI (21)) hx hb dX0_noteFilled_4 (by decide) ?_
  refine lv_icmp_ge (tgt := 29) hx hb dX0_noteFilled_6 (by decide) (fun c_6 => ?_) (fun c_6 => ?_)
  ·
    have c_6 := (nI_leI (by omega) (by omega)).mp c_6
    exact hret (R ct, fl, fc) H locs _ _ (if_neg (by show ¬ fc < 21; omega)).symm (by show va_P D vwCl (gW cI cG h a g f ra (nI n) (nI id) (nI ct) (nI fc) ad fl (upR R ct (R ct))) H; rw [upR_id]; exact hP) hS dX0_noteFilled_29
  ·
    have c_6 : ¬ _ := fun h9 => c_6 ((nI_leI (by omega) (by omega)).mpr h9)
    refine lv_aload_n hx hb dX0_noteFilled_9 rfl (lv_at hl 0 rfl) ?_
    refine va_get (D := D) (ci := 0) (v := .ref f) (C := RX0) (T := TX0) (N := 7) hx hb hts hin0 hown hK hP 0 rfl rfl 5 (by decide) hl_filled (fun _ h9 => h9) rfl dX0_noteFilled_10 ?_
    refine lv_aload_n hx hb dX0_noteFilled_13 rfl (lv_at hl 0 rfl) ?_
    refine va_get (D := D) (ci := 0) (v := .int (nI (fc))) (C := RX0) (T := TX0) (N := 7) hx hb hts hin0 hown hK hP 0 rfl rfl 6 (by decide) hl_filledCount (fun _ h9 => h9) rfl dX0_noteFilled_14 ?_
    refine lv_iload_n hx hb dX0_noteFilled_17 rfl (lv_at hl 1 rfl) ?_
    refine ua_iast hx hb hK hP hD hS 3 0 rfl rfl (by omega) (by decide) dX0_noteFilled_18 (fun H locs hP hD hS => ?_)
    have hP : va_P D vwCl (gW cI cG h a g f ra (nI (n)) (nI (id)) (nI (ct)) (nI (fc)) (ad) (upd (fl) (fc) (nI (z))) (R)) H := hP
    have hD : va_D A (gW cI cG h a g f ra (nI (n)) (nI (id)) (nI (ct)) (nI (fc)) (ad) (upd (fl) (fc) (nI (z))) (R)) := hD
    refine lv_aload_n hx hb dX0_noteFilled_19 rfl (lv_at hl 0 rfl) ?_
    refine lv_dup hx hb dX0_noteFilled_20 rfl ?_
    refine va_get (D := D) (ci := 0) (v := .int (nI (fc))) (C := RX0) (T := TX0) (N := 7) hx hb hts hin0 hown hK hP 0 rfl rfl 6 (by decide) hl_filledCount (fun _ h9 => h9) rfl dX0_noteFilled_21 ?_
    refine lv_iconst (v := nI (1)) hx hb dX0_noteFilled_24 (by decide) ?_
    refine lv_iadd hx hb dX0_noteFilled_25 ?_
    refine pu_tp (nI_add _ _) ?_
    refine va_put (D := D) (ci := 0) (v := .int (nI (fc + 1))) (ty := .int) (C := RX0) (T := TX0) (N := 7) hx hb hts hin0 tyX0 tyX0_ok nmX0 hown hK hP hD hS 0 rfl rfl 6 (by decide) hl_filledCount (fun _ h9 => h9) rfl (by decide +kernel) rfl rfl (Nat.le_of_ble_eq_true rfl) dX0_noteFilled_26 (fun H locs hP hD hS => ?_)
    have hP : va_P D vwCl (gW cI cG h a g f ra (nI (n)) (nI (id)) (nI (ct)) (nI (fc + 1)) (ad) (upd (fl) (fc) (nI (z))) (R)) H := hP
    have hD : va_D A (gW cI cG h a g f ra (nI (n)) (nI (id)) (nI (ct)) (nI (fc + 1)) (ad) (upd (fl) (fc) (nI (z))) (R)) := hD
    exact hret (R ct, upd fl fc (nI z), fc + 1) H locs _ _ (if_pos (by show fc < 21; omega)).symm (by show va_P D vwCl (gW cI cG h a g f ra (nI n) (nI id) (nI ct) (nI (fc + 1)) ad (upd fl fc (nI z)) (upR R ct (R ct))) H; rw [upR_id]; exact hP) hS dX0_noteFilled_29
theorem eX0_listFilled : yX0_listFilled.cls = RX0 ∧ yX0_listFilled.cls ≠ "java/lang/invoke/MethodHandle" ∧ yX0_listFilled.cls ≠ "java/lang/invoke/VarHandle" ∧ (parseMethodDescriptor yX0_listFilled.desc).map (fun d => d.parameters.length) = some 0 := by decide +kernel
set_option maxHeartbeats 4000000 in
set_option maxRecDepth 100000 in
theorem kX0_listFilled (hn : n ≤ 7) (hc : ct ≤ 12) : mV (S := CS) l yX0_listFilled wsX0_listFilled ({ frames := 2, cells := 0, slots := 0, locals := 43 } : Room) [.ref h] D (gT cI cG cZ) (gW cI cG h a g f ra (nI (n)) (nI (id)) (nI (ct)) (nI (fc)) (ad) (fl) (R)) (fun u => gW cI cG h a g f ra (nI n) (nI id) (nI ct) (nI u.2.2) ad u.2.1 (upR R ct u.1)) (fun u => u = lfF n n 0 (R ct, fl, 0)) := by
  refine mV_ofW (cc := cX0_listFilled) (maxL := 3) (by decide) rfl (Nat.le_of_ble_eq_true rfl) ?_
  intro p e s m args below meth c QQ hx hb hml hown hts hK hP hD hS hret ls hl
  have hl : lv_has ls 3 [(0, .ref h)] := hl
  have hown : s.vm.findClass RX0 = some m.cls := hown
  have hin0 : ∀ w ∈ wsX00, w ∈ wsX0_listFilled := fun w h => List.mem_cons_of_mem _ (List.mem_append_right _ h)
  have hl_filledCount : (Cond.fieldLink RX0 106 "PermGroup" "filledCount" "I").before args s = true := hts _ (by decide +kernel)
  have hl_n : (Cond.fieldLink RX0 25 "PermGroup" "n" "I").before args s = true := hts _ (by decide +kernel)
  generalize inW (gW cI cG h a g f ra (nI (n)) (nI (id)) (nI (ct)) (nI (fc)) (ad) (fl) (R)) = A at hD hS hret
  suffices start : ∀ (H : Heap) (locs : List Loc), va_P D vwCl (gW cI cG h a g f ra (nI (n)) (nI (id)) (nI (ct)) (nI (fc)) (ad) (fl) (R)) H → va_D A (gW cI cG h a g f ra (nI (n)) (nI (id)) (nI (ct)) (nI (fc)) (ad) (fl) (R)) → va_S A s.heap H locs → W p l e ({ frames := 2, cells := 0, slots := 0, locals := 43 } : Room) s m args below meth c H locs 0 0 QQ (F0 m 0 ls []) from start s.heap [] hP hD hS
  clear hP hD hS
  intro H locs hP hD hS
  refine lv_aload_n hx hb dX0_listFilled_0 rfl (lv_at hl 0 rfl) ?_
  refine lv_iconst (v := nI (0)) hx hb dX0_listFilled_1 (by decide) ?_
  refine va_put (D := D) (ci := 0) (v := .int (nI (0))) (ty := .int) (C := RX0) (T := TX0) (N := 7) hx hb hts hin0 tyX0 tyX0_ok nmX0 hown hK hP hD hS 0 rfl rfl 6 (by decide) hl_filledCount (fun _ h9 => h9) rfl (by decide +kernel) rfl rfl (Nat.le_of_ble_eq_true rfl) dX0_listFilled_2 (fun H locs hP hD hS => ?_)
  have hP : va_P D vwCl (gW cI cG h a g f ra (nI (n)) (nI (id)) (nI (ct)) (nI (0)) (ad) (fl) (R)) H := hP
  have hD : va_D A (gW cI cG h a g f ra (nI (n)) (nI (id)) (nI (ct)) (nI (0)) (ad) (fl) (R)) := hD
  refine lv_iconst (v := nI (0)) hx hb dX0_listFilled_5 (by decide) ?_
  refine lv_istore_n (lv' := [(1, .int (nI (0))), (0, .ref h)]) hx hb dX0_listFilled_6 rfl hl (by decide) rfl (fun ls hl => ?_)
  have loop_7 : ∀ (k lv : Nat) (z : CS) (H : Heap) (locs : List Loc), (lv + k = n) → (z.1 = R ct) → (lfF n n 0 (R ct, fl, 0) = lfF n k lv z) → (sOK z) → va_P D vwCl (gW cI cG h a g f ra (nI (n)) (nI (id)) (nI (ct)) (nI (z.2.2)) (ad) (z.2.1) (R)) H → va_D A (gW cI cG h a g f ra (nI (n)) (nI (id)) (nI (ct)) (nI (z.2.2)) (ad) (z.2.1) (R)) → va_S A s.heap H locs → ∀ (ls : Array Slot), lv_has ls 3 [(0, .ref h), (1, .int (nI (lv)))] → W p l e ({ frames := 2, cells := 0, slots := 0, locals := 43 } : Room) s m args below meth c H locs 0 0 QQ (F0 m 7 ls []) := by
    intro k
    induction k with
    | zero =>
      intro lv z H locs hk hz1 hr hok hP hD hS ls hl
      refine lv_iload_n hx hb dX0_listFilled_7 rfl (lv_at hl 1 rfl) ?_
      refine lv_aload_n hx hb dX0_listFilled_8 rfl (lv_at hl 0 rfl) ?_
      refine va_get (D := D) (ci := 0) (v := .int (nI (n))) (C := RX0) (T := TX0) (N := 7) hx hb hts hin0 hown hK hP 0 rfl rfl 0 (by decide) hl_n (fun _ h9 => h9) rfl dX0_listFilled_9 ?_
      refine lv_icmp_ge (tgt := 58) hx hb dX0_listFilled_12 (by decide) (fun c_12 => ?_) (fun c_12 => ?_)
      ·
        have c_12 := (nI_leI (by omega) (by omega)).mp c_12
        exact hret z H locs _ _ hr.symm (by show va_P D vwCl (gW cI cG h a g f ra (nI n) (nI id) (nI ct) (nI z.2.2) ad z.2.1 (upR R ct z.1)) H; rw [hz1, upR_id]; exact hP) hS dX0_listFilled_58
      ·
        have c_12 : ¬ _ := fun h9 => c_12 ((nI_leI (by omega) (by omega)).mpr h9)
        exfalso; omega
    | succ k ih_7 =>
      intro lv z H locs hk hz1 hr hok hP hD hS ls hl
      refine lv_iload_n hx hb dX0_listFilled_7 rfl (lv_at hl 1 rfl) ?_
      refine lv_aload_n hx hb dX0_listFilled_8 rfl (lv_at hl 0 rfl) ?_
      refine va_get (D := D) (ci := 0) (v := .int (nI (n))) (C := RX0) (T := TX0) (N := 7) hx hb hts hin0 hown hK hP 0 rfl rfl 0 (by decide) hl_n (fun _ h9 => h9) rfl dX0_listFilled_9 ?_
      refine lv_icmp_ge (tgt := 58) hx hb dX0_listFilled_12 (by decide) (fun c_12 => ?_) (fun c_12 => ?_)
      ·
        have c_12 := (nI_leI (by omega) (by omega)).mp c_12
        exfalso; omega
      ·
        have c_12 : ¬ _ := fun h9 => c_12 ((nI_leI (by omega) (by omega)).mpr h9)
        refine lv_iload_n hx hb dX0_listFilled_15 rfl (lv_at hl 1 rfl) ?_
        refine lv_iconst (v := nI (1)) hx hb dX0_listFilled_16 (by decide) ?_
        refine lv_iadd hx hb dX0_listFilled_17 ?_
        refine pu_tp (nI_add _ _) ?_
        refine lv_istore_n (lv' := [(2, .int (nI (lv + 1))), (0, .ref h), (1, .int (nI (lv)))]) hx hb dX0_listFilled_18 rfl hl (by decide) rfl (fun ls hl => ?_)
        have loop_19 : ∀ (k2 x : Nat) (v : CS) (H : Heap) (locs : List Loc), (x + k2 = n) → (v.1 = R ct) → (lfI lv (n - (lv + 1)) (lv + 1) z = lfI lv k2 x v) → (sOK v) → va_P D vwCl (gW cI cG h a g f ra (nI (n)) (nI (id)) (nI (ct)) (nI (v.2.2)) (ad) (v.2.1) (R)) H → va_D A (gW cI cG h a g f ra (nI (n)) (nI (id)) (nI (ct)) (nI (v.2.2)) (ad) (v.2.1) (R)) → va_S A s.heap H locs → ∀ (ls : Array Slot), lv_has ls 3 [(0, .ref h), (1, .int (nI (lv))), (2, .int (nI (x)))] → W p l e ({ frames := 2, cells := 0, slots := 0, locals := 43 } : Room) s m args below meth c H locs 0 0 QQ (F0 m 19 ls []) := by
          intro k2
          induction k2 with
          | zero =>
            intro x v H locs hk2 hv1 hr2 hokv hP hD hS ls hl
            refine lv_iload_n hx hb dX0_listFilled_19 rfl (lv_at hl 2 rfl) ?_
            refine lv_aload_n hx hb dX0_listFilled_20 rfl (lv_at hl 0 rfl) ?_
            refine va_get (D := D) (ci := 0) (v := .int (nI (n))) (C := RX0) (T := TX0) (N := 7) hx hb hts hin0 hown hK hP 0 rfl rfl 0 (by decide) hl_n (fun _ h9 => h9) rfl dX0_listFilled_21 ?_
            refine lv_icmp_ge (tgt := 52) hx hb dX0_listFilled_24 (by decide) (fun c_24 => ?_) (fun c_24 => ?_)
            ·
              have c_24 := (nI_leI (by omega) (by omega)).mp c_24
              refine lv_iinc (v := nI (lv + 1)) (lv' := [(1, .int (nI (lv + 1))), (0, .ref h), (2, .int (nI (x)))]) hx hb dX0_listFilled_52 hl (k := 1) rfl (nI_1 _) (by decide) rfl (fun ls hl => ?_)
              refine lv_goto (tgt := 7) hx hb dX0_listFilled_55 (by decide) ?_
              exact ih_7 (lv + 1) v H locs (by omega) hv1 (by have hz : v = lfI lv (n - (lv + 1)) (lv + 1) z := hr2.symm; rw [hz]; exact hr) hokv hP hD hS ls (lv_sub hl [1, 0] rfl)
            ·
              have c_24 : ¬ _ := fun h9 => c_24 ((nI_leI (by omega) (by omega)).mpr h9)
              exfalso; omega
          | succ k2 ih_19 =>
            intro x v H locs hk2 hv1 hr2 hokv hP hD hS ls hl
            refine lv_iload_n hx hb dX0_listFilled_19 rfl (lv_at hl 2 rfl) ?_
            refine lv_aload_n hx hb dX0_listFilled_20 rfl (lv_at hl 0 rfl) ?_
            refine va_get (D := D) (ci := 0) (v := .int (nI (n))) (C := RX0) (T := TX0) (N := 7) hx hb hts hin0 hown hK hP 0 rfl rfl 0 (by decide) hl_n (fun _ h9 => h9) rfl dX0_listFilled_21 ?_
            refine lv_icmp_ge (tgt := 52) hx hb dX0_listFilled_24 (by decide) (fun c_24 => ?_) (fun c_24 => ?_)
            ·
              have c_24 := (nI_leI (by omega) (by omega)).mp c_24
              exfalso; omega
            ·
              have c_24 : ¬ _ := fun h9 => c_24 ((nI_leI (by omega) (by omega)).mpr h9)
              refine lv_aload_n hx hb dX0_listFilled_27 rfl (lv_at hl 0 rfl) ?_
              refine lv_iload_n hx hb dX0_listFilled_28 rfl (lv_at hl 1 rfl) ?_
              refine lv_iload_n hx hb dX0_listFilled_29 rfl (lv_at hl 2 rfl) ?_
              refine pu_V (As := [.int (nI (lv)), .int (nI (x))]) (rest := []) (b := h) ⟨hx, hb, hml, hown, hts⟩ (kX0_entry hP hc (lv := lv) (x := x) (by omega) (by omega)) (cwV 2 hts gX0_listFilled_X0_entry rfl rfl rfl eX0_entry ⟨by decide, by decide⟩) (va_recv hK hP (ci := 0) (q0 := 0) rfl rfl) hK rfl hl.1 rfl (Nat.le_of_ble_eq_true rfl) dX0_listFilled_30 ⟨Nat.zero_le _, Nat.zero_le _⟩ ?_
              refine lv_iconst (v := -1) hx hb dX0_listFilled_33 (by decide) ?_
              refine lv_icmp_eq (tgt := 46) hx hb dX0_listFilled_34 (by decide) (fun c_34 => ?_) (fun c_34 => ?_)
              ·
                refine lv_iinc (v := nI (x + 1)) (lv' := [(2, .int (nI (x + 1))), (0, .ref h), (1, .int (nI (lv)))]) hx hb dX0_listFilled_46 hl (k := 2) rfl (nI_1 _) (by decide) rfl (fun ls hl => ?_)
                refine lv_goto (tgt := 19) hx hb dX0_listFilled_49 (by decide) ?_
                exact ih_19 (x + 1) v H locs (by omega) hv1 (hr2.trans (lfI_n (by rw [hv1]; exact c_34))) hokv hP hD hS ls (lv_sub hl [1, 2, 0] rfl)
              ·
                refine lv_aload_n hx hb dX0_listFilled_37 rfl (lv_at hl 0 rfl) ?_
                refine lv_iload_n hx hb dX0_listFilled_38 rfl (lv_at hl 1 rfl) ?_
                refine lv_iload_n hx hb dX0_listFilled_39 rfl (lv_at hl 2 rfl) ?_
                refine pu_S (As := [.int (nI (lv)), .int (nI (x))]) (rest := [.ref h]) ⟨hx, hb, hml, hown, hts⟩ (kX0_slotOf (x := lv) (z := x)) (va_cwS 2 hts gX0_listFilled_X0_slotOf rfl rfl rfl eX0_slotOf ⟨by decide, by decide⟩) hK rfl hl.1 rfl (Nat.le_of_ble_eq_true rfl) dX0_listFilled_40 ⟨Nat.zero_le _, Nat.zero_le _⟩ ?_
                refine mv_V (As := [.int (nI (lv * 8 + x))]) (rest := []) (b := h) ⟨hx, hb, hml, hown, hts⟩ (kX0_noteFilled (fc := v.2.2) hokv.1 (z := lv * 8 + x)) (cwV 1 hts gX0_listFilled_X0_noteFilled rfl rfl rfl eX0_noteFilled ⟨by decide, by decide⟩) (va_recv hK hP (ci := 0) (q0 := 0) rfl rfl) hK hP hD hS rfl hl.1 rfl (Nat.le_of_ble_eq_true rfl) dX0_listFilled_43 ⟨Nat.zero_le _, Nat.zero_le _⟩ (fun u H locs hw hP hS hk => ?_)
                have hu1 : u.1 = R ct := by rw [hw, ntS_1]
                rw [hu1, upR_id] at hP
                have hP : va_P D vwCl (gW cI cG h a g f ra (nI (n)) (nI (id)) (nI (ct)) (nI (u.2.2)) (ad) (u.2.1) (R)) H := hP
                have hD : va_D A (gW cI cG h a g f ra (nI (n)) (nI (id)) (nI (ct)) (nI (u.2.2)) (ad) (u.2.1) (R)) := gW_addr hD
                refine lv_iinc (v := nI (x + 1)) (lv' := [(2, .int (nI (x + 1))), (0, .ref h), (1, .int (nI (lv)))]) hx hb dX0_listFilled_46 hl (k := 2) rfl (nI_1 _) (by decide) rfl (fun ls hl => ?_)
                refine lv_goto (tgt := 19) hx hb dX0_listFilled_49 (by decide) ?_
                exact ih_19 (x + 1) u H locs (by omega) hu1 (by have hu2 : u = ntS (lv * 8 + x) v := (by rw [hw, ← hv1]); rw [hu2]; exact hr2.trans (lfI_y (by rw [hv1]; exact c_34))) (by have hu2 : u = ntS (lv * 8 + x) v := (by rw [hw, ← hv1]); rw [hu2]; exact sOK_nt (by omega) hokv) hP hD hS ls (lv_sub hl [1, 2, 0] rfl)
        exact loop_19 (n - (lv + 1)) (lv + 1) z H locs (by omega) hz1 rfl hok hP hD hS ls (lv_sub hl [1, 2, 0] rfl)
  exact loop_7 n 0 (R ct, fl, 0) H locs (by omega) rfl rfl (sOK_0 _ _) hP hD hS ls (lv_sub hl [1, 0] rfl)
theorem eX0_enter : yX0_enter.cls = RX0 ∧ yX0_enter.cls ≠ "java/lang/invoke/MethodHandle" ∧ yX0_enter.cls ≠ "java/lang/invoke/VarHandle" ∧ (parseMethodDescriptor yX0_enter.desc).map (fun d => d.parameters.length) = some 1 := by decide +kernel
set_option maxHeartbeats 4000000 in
set_option maxRecDepth 100000 in
theorem kX0_enter (hn : n ≤ 7) (hc : ct ≤ 12) (hfc : fc ≤ 21) {P : Nat} (hp : P < 2 ^ 32) : mV (S := CS) l yX0_enter wsX0_enter ({ frames := 3, cells := 0, slots := 0, locals := 70 } : Room) [.ref h, .int (nI (P))] D (gT cI cG cZ) (gW cI cG h a g f ra (nI (n)) (nI (id)) (nI (ct)) (nI (fc)) (ad) (fl) (R)) (fun u => gW cI cG h a g f ra (nI n) (nI id) (nI ct) (nI u.2.2) ad u.2.1 (upR R ct u.1)) (fun u => u = enS n P (R ct, fl, fc)) := by
  refine mV_ofW (cc := cX0_enter) (maxL := 5) (by decide) rfl (Nat.le_of_ble_eq_true rfl) ?_
  intro p e s m args below meth c QQ hx hb hml hown hts hK hP hD hS hret ls hl
  have hl : lv_has ls 5 [(0, .ref h), (1, .int (nI (P)))] := hl
  have hown : s.vm.findClass RX0 = some m.cls := hown
  have hin0 : ∀ w ∈ wsX00, w ∈ wsX0_enter := fun w h => List.mem_cons_of_mem _ (List.mem_append_right _ h)
  have hl_chains : (Cond.fieldLink RX0 15 "PermGroup" "chains" "[[I").before args s = true := hts _ (by decide +kernel)
  have hl_count : (Cond.fieldLink RX0 33 "PermGroup" "count" "I").before args s = true := hts _ (by decide +kernel)
  have hl_n : (Cond.fieldLink RX0 25 "PermGroup" "n" "I").before args s = true := hts _ (by decide +kernel)
  generalize inW (gW cI cG h a g f ra (nI (n)) (nI (id)) (nI (ct)) (nI (fc)) (ad) (fl) (R)) = A at hD hS hret
  suffices start : ∀ (H : Heap) (locs : List Loc), va_P D vwCl (gW cI cG h a g f ra (nI (n)) (nI (id)) (nI (ct)) (nI (fc)) (ad) (fl) (R)) H → va_D A (gW cI cG h a g f ra (nI (n)) (nI (id)) (nI (ct)) (nI (fc)) (ad) (fl) (R)) → va_S A s.heap H locs → W p l e ({ frames := 3, cells := 0, slots := 0, locals := 70 } : Room) s m args below meth c H locs 0 0 QQ (F0 m 0 ls []) from start s.heap [] hP hD hS
  clear hP hD hS
  intro H locs hP hD hS
  refine lv_aload_n hx hb dX0_enter_0 rfl (lv_at hl 0 rfl) ?_
  refine lv_iload_n hx hb dX0_enter_1 rfl (lv_at hl 1 rfl) ?_
  refine pu_V (As := [.int (nI (P))]) (rest := []) (b := h) ⟨hx, hb, hml, hown, hts⟩ (kX0_residue hP hn hc hp) (cwV 1 hts gX0_enter_X0_residue rfl rfl rfl eX0_residue ⟨by decide, by decide⟩) (va_recv hK hP (ci := 0) (q0 := 0) rfl rfl) hK rfl hl.1 rfl (Nat.le_of_ble_eq_true rfl) dX0_enter_2 ⟨Nat.zero_le _, Nat.zero_le _⟩ ?_
  refine lv_istore_n (lv' := [(2, .int (nI (rs (R ct) n P))), (0, .ref h), (1, .int (nI (P)))]) hx hb dX0_enter_5 rfl hl (by decide) rfl (fun ls hl => ?_)
  refine lv_iconst (v := nI (0)) hx hb dX0_enter_6 (by decide) ?_
  refine lv_istore_n (lv' := [(3, .int (nI (0))), (2, .int (nI (rs (R ct) n P))), (0, .ref h), (1, .int (nI (P)))]) hx hb dX0_enter_7 rfl hl (by decide) rfl (fun ls hl => ?_)
  have loop_8 : ∀ (k lv : Nat), (lv + k = n) → (enS n P (R ct, fl, fc) = enL (rs (R ct) n P) k lv (R ct, fl, fc)) → ∀ (ls : Array Slot), lv_has ls 5 [(0, .ref h), (2, .int (nI (rs (R ct) n P))), (3, .int (nI (lv)))] → W p l e ({ frames := 3, cells := 0, slots := 0, locals := 70 } : Room) s m args below meth c H locs 0 0 QQ (F0 m 8 ls []) := by
    intro k
    induction k with
    | zero =>
      intro lv hk hr ls hl
      refine lv_iload_n hx hb dX0_enter_8 rfl (lv_at hl 2 rfl) ?_
      refine lv_aload_n hx hb dX0_enter_9 rfl (lv_at hl 0 rfl) ?_
      refine va_get (D := D) (ci := 0) (v := .int (nI (n))) (C := RX0) (T := TX0) (N := 7) hx hb hts hin0 hown hK hP 0 rfl rfl 0 (by decide) hl_n (fun _ h9 => h9) rfl dX0_enter_10 ?_
      refine lv_icmp_ge (tgt := 63) hx hb dX0_enter_13 (by decide) (fun c_13 => ?_) (fun c_13 => ?_)
      ·
        have c_13 := (nI_leI (by omega) (by omega)).mp c_13
        exact hret (R ct, fl, fc) H locs _ _ hr.symm (by show va_P D vwCl (gW cI cG h a g f ra (nI n) (nI id) (nI ct) (nI fc) ad fl (upR R ct (R ct))) H; rw [upR_id]; exact hP) hS dX0_enter_63
      ·
        have c_13 : ¬ _ := fun h9 => c_13 ((nI_leI (by omega) (by omega)).mpr h9)
        exfalso; omega
    | succ k ih_8 =>
      intro lv hk hr ls hl
      refine lv_iload_n hx hb dX0_enter_8 rfl (lv_at hl 2 rfl) ?_
      refine lv_aload_n hx hb dX0_enter_9 rfl (lv_at hl 0 rfl) ?_
      refine va_get (D := D) (ci := 0) (v := .int (nI (n))) (C := RX0) (T := TX0) (N := 7) hx hb hts hin0 hown hK hP 0 rfl rfl 0 (by decide) hl_n (fun _ h9 => h9) rfl dX0_enter_10 ?_
      refine lv_icmp_ge (tgt := 63) hx hb dX0_enter_13 (by decide) (fun c_13 => ?_) (fun c_13 => ?_)
      ·
        have c_13 := (nI_leI (by omega) (by omega)).mp c_13
        exfalso; omega
      ·
        have c_13 : ¬ _ := fun h9 => c_13 ((nI_leI (by omega) (by omega)).mpr h9)
        refine lv_iload_n hx hb dX0_enter_16 rfl (lv_at hl 1 rfl) ?_
        refine lv_iload_n hx hb dX0_enter_17 rfl (lv_at hl 2 rfl) ?_
        refine pu_S (As := [.int (nI (rs (R ct) n P)), .int (nI (lv))]) (rest := []) ⟨hx, hb, hml, hown, hts⟩ (kX0_image (P := rs (R ct) n P) (i := lv) (rsF_lt _ hn _ _ _ hp) (by omega)) (va_cwS 2 hts gX0_enter_X0_image rfl rfl rfl eX0_image ⟨by decide, by decide⟩) hK rfl hl.1 rfl (Nat.le_of_ble_eq_true rfl) dX0_enter_18 ⟨Nat.zero_le _, Nat.zero_le _⟩ ?_
        refine lv_istore (lv' := [(4, .int (nI (im (rs (R ct) n P) (lv)))), (0, .ref h), (2, .int (nI (rs (R ct) n P))), (3, .int (nI (lv)))]) hx hb dX0_enter_21 hl (by decide) rfl (fun ls hl => ?_)
        refine lv_iload hx hb dX0_enter_23 (lv_at hl 0 rfl) ?_
        refine lv_iload_n hx hb dX0_enter_25 rfl (lv_at hl 3 rfl) ?_
        refine lv_icmp_eq (tgt := 57) hx hb dX0_enter_26 (by decide) (fun c_26 => ?_) (fun c_26 => ?_)
        ·
          have c_26 := (nb_eqI (Nat.lt_trans (im_lt _ _) (by decide)) (by omega)).mp c_26
          refine lv_iinc (v := nI (lv + 1)) (lv' := [(3, .int (nI (lv + 1))), (4, .int (nI (im (rs (R ct) n P) (lv)))), (0, .ref h), (2, .int (nI (rs (R ct) n P)))]) hx hb dX0_enter_57 hl (k := 3) rfl (nI_1 _) (by decide) rfl (fun ls hl => ?_)
          refine lv_goto (tgt := 8) hx hb dX0_enter_60 (by decide) ?_
          exact ih_8 (lv + 1) (by omega) (hr.trans (if_pos c_26)) ls (lv_sub hl [2, 3, 0] rfl)
        ·
          have c_26 : ¬ _ := fun h9 => c_26 ((nb_eqI (Nat.lt_trans (im_lt _ _) (by decide)) (by omega)).mpr h9)
          refine lv_aload_n hx hb dX0_enter_29 rfl (lv_at hl 1 rfl) ?_
          refine va_get (D := D) (ci := 0) (v := .ref g) (C := RX0) (T := TX0) (N := 7) hx hb hts hin0 hown hK hP 0 rfl rfl 4 (by decide) hl_chains (fun _ h9 => h9) rfl dX0_enter_30 ?_
          refine lv_aload_n hx hb dX0_enter_33 rfl (lv_at hl 1 rfl) ?_
          refine va_get (D := D) (ci := 0) (v := .int (nI (ct))) (C := RX0) (T := TX0) (N := 7) hx hb hts hin0 hown hK hP 0 rfl rfl 2 (by decide) hl_count (fun _ h9 => h9) rfl dX0_enter_34 ?_
          refine ga_row hx hb hK hP (by omega) dX0_enter_37 ?_
          refine lv_iload_n hx hb dX0_enter_38 rfl (lv_at hl 3 rfl) ?_
          refine lv_iload hx hb dX0_enter_39 (lv_at hl 0 rfl) ?_
          refine pu_S (As := [.int (nI (lv)), .int (nI (im (rs (R ct) n P) (lv)))]) (rest := [.ref (ra ct)]) ⟨hx, hb, hml, hown, hts⟩ (kX0_slotOf (x := lv) (z := im (rs (R ct) n P) lv)) (va_cwS 2 hts gX0_enter_X0_slotOf rfl rfl rfl eX0_slotOf ⟨by decide, by decide⟩) hK rfl hl.1 rfl (Nat.le_of_ble_eq_true rfl) dX0_enter_41 ⟨Nat.zero_le _, Nat.zero_le _⟩ ?_
          refine lv_iload_n hx hb dX0_enter_44 rfl (lv_at hl 2 rfl) ?_
          refine ua_row hx hb hK hP hD hS (by omega) (by have := im_lt (rs (R ct) n P) lv; omega) dX0_enter_45 (fun H locs hP hD hS => ?_)
          have hP : va_P D vwCl (gW cI cG h a g f ra (nI (n)) (nI (id)) (nI (ct)) (nI (fc)) (ad) (fl) (upR (R) ct (upd ((R) ct) (lv * 8 + im (rs (R ct) n P) lv) (nI (rs (R ct) n P))))) H := hP
          have hD : va_D A (gW cI cG h a g f ra (nI (n)) (nI (id)) (nI (ct)) (nI (fc)) (ad) (fl) (upR (R) ct (upd ((R) ct) (lv * 8 + im (rs (R ct) n P) lv) (nI (rs (R ct) n P))))) := hD
          refine lv_aload_n hx hb dX0_enter_46 rfl (lv_at hl 1 rfl) ?_
          refine lv_iload_n hx hb dX0_enter_47 rfl (lv_at hl 3 rfl) ?_
          refine lv_iload hx hb dX0_enter_48 (lv_at hl 0 rfl) ?_
          refine pu_S (As := [.int (nI (lv)), .int (nI (im (rs (R ct) n P) (lv)))]) (rest := [.ref h]) ⟨hx, hb, hml, hown, hts⟩ (kX0_slotOf (x := lv) (z := im (rs (R ct) n P) lv)) (va_cwS 2 hts gX0_enter_X0_slotOf rfl rfl rfl eX0_slotOf ⟨by decide, by decide⟩) hK rfl hl.1 rfl (Nat.le_of_ble_eq_true rfl) dX0_enter_50 ⟨Nat.zero_le _, Nat.zero_le _⟩ ?_
          refine mv_V (As := [.int (nI (lv * 8 + im (rs (R ct) n P) lv))]) (rest := []) (b := h) ⟨hx, hb, hml, hown, hts⟩ (kX0_noteFilled (fc := fc) hfc (z := lv * 8 + im (rs (R ct) n P) lv)) (cwV 1 hts gX0_enter_X0_noteFilled rfl rfl rfl eX0_noteFilled ⟨by decide, by decide⟩) (va_recv hK hP (ci := 0) (q0 := 0) rfl rfl) hK hP hD hS rfl hl.1 rfl (Nat.le_of_ble_eq_true rfl) dX0_enter_53 ⟨Nat.zero_le _, Nat.zero_le _⟩ (fun u H locs hw hP hS hk => ?_)
          rw [upR_u] at hP
          rw [upR_s] at hw
          exact hret u H locs _ _ (hw.trans (hr.trans (if_neg c_26)).symm) hP hS dX0_enter_56
  exact loop_8 n 0 (by omega) rfl ls (lv_sub hl [2, 1, 0] rfl)
theorem eX0_isFull : yX0_isFull.cls = RX0 ∧ yX0_isFull.cls ≠ "java/lang/invoke/MethodHandle" ∧ yX0_isFull.cls ≠ "java/lang/invoke/VarHandle" ∧ (parseMethodDescriptor yX0_isFull.desc).map (fun d => d.parameters.length) = some 0 := by decide +kernel
set_option maxHeartbeats 4000000 in
set_option maxRecDepth 100000 in
theorem kX0_isFull {H : Heap} (hP : va_P D vwCl (gW cI cG h a g f ra (nI n) (nI id) (nI ct) (nI fc) ad fl R) H) (hn : n ≤ 7) (hn1 : 1 ≤ n) (hfc : fc ≤ 21) : pI l yX0_isFull wsX0_isFull ({ frames := 0, cells := 0, slots := 0, locals := 0 } : Room) [.ref h] D (gT cI cG cZ) H (b01 (decide (n * (n - 1) / 2 ≤ fc))) := by
  refine pI_ofW (cc := cX0_isFull) (maxL := 1) (ret := (some .boolean)) (by decide) rfl (Or.inr ⟨rfl, b01_or _⟩) (Nat.le_of_ble_eq_true rfl) ?_
  intro p e s m args below meth c QQ hx hb hml hown hts hK hret ls hl
  have hl : lv_has ls 1 [(0, .ref h)] := hl
  have hown : s.vm.findClass RX0 = some m.cls := hown
  have hin0 : ∀ w ∈ wsX00, w ∈ wsX0_isFull := fun w h => List.mem_cons_of_mem _ (List.mem_append_right _ h)
  have hl_filledCount : (Cond.fieldLink RX0 106 "PermGroup" "filledCount" "I").before args s = true := hts _ (by decide +kernel)
  have hl_n : (Cond.fieldLink RX0 25 "PermGroup" "n" "I").before args s = true := hts _ (by decide +kernel)
  have hm : n * (n - 1) ≤ 7 * 6 := Nat.mul_le_mul hn (by omega)
  refine lv_aload_n hx hb dX0_isFull_0 rfl (lv_at hl 0 rfl) ?_
  refine va_get (D := D) (ci := 0) (v := .int (nI (fc))) (C := RX0) (T := TX0) (N := 7) hx hb hts hin0 hown hK hP 0 rfl rfl 6 (by decide) hl_filledCount (fun _ h9 => h9) rfl dX0_isFull_1 ?_
  refine lv_aload_n hx hb dX0_isFull_4 rfl (lv_at hl 0 rfl) ?_
  refine va_get (D := D) (ci := 0) (v := .int (nI (n))) (C := RX0) (T := TX0) (N := 7) hx hb hts hin0 hown hK hP 0 rfl rfl 0 (by decide) hl_n (fun _ h9 => h9) rfl dX0_isFull_5 ?_
  refine lv_aload_n hx hb dX0_isFull_8 rfl (lv_at hl 0 rfl) ?_
  refine va_get (D := D) (ci := 0) (v := .int (nI (n))) (C := RX0) (T := TX0) (N := 7) hx hb hts hin0 hown hK hP 0 rfl rfl 0 (by decide) hl_n (fun _ h9 => h9) rfl dX0_isFull_9 ?_
  refine lv_iconst (v := nI (1)) hx hb dX0_isFull_12 (by decide) ?_
  refine lv_isub hx hb dX0_isFull_13 ?_
  refine pu_tp (pk_sub (by omega)) ?_
  refine lv_imul hx hb dX0_isFull_14 ?_
  refine pu_tp (pk_mul _ _) ?_
  refine lv_iconst (v := nI (2)) hx hb dX0_isFull_15 (by decide) ?_
  refine lv_idiv hx hb dX0_isFull_16 (nI_ne0 (by omega) (by omega)) ?_
  refine pu_tp (pk_div (by omega) (by omega) (by omega)) ?_
  refine lv_icmp_lt (tgt := 24) hx hb dX0_isFull_17 (by decide) (fun c_17 => ?_) (fun c_17 => ?_)
  ·
    have c_17 := (nI_ltI (by omega) (by omega)).mp c_17
    refine lv_iconst (v := nI (0)) hx hb dX0_isFull_24 (by decide) ?_
    exact hret _ _ _ (by rw [decide_eq_false (Nat.not_le.mpr c_17)]; rfl) dX0_isFull_25
  ·
    have c_17 : ¬ _ := fun h9 => c_17 ((nI_ltI (by omega) (by omega)).mpr h9)
    refine lv_iconst (v := nI (1)) hx hb dX0_isFull_20 (by decide) ?_
    refine lv_goto (tgt := 25) hx hb dX0_isFull_21 (by decide) ?_
    exact hret _ _ _ (by rw [decide_eq_true (Nat.le_of_not_lt c_17)]; rfl) dX0_isFull_25
theorem eX0_enterProduct : yX0_enterProduct.cls = RX0 ∧ yX0_enterProduct.cls ≠ "java/lang/invoke/MethodHandle" ∧ yX0_enterProduct.cls ≠ "java/lang/invoke/VarHandle" ∧ (parseMethodDescriptor yX0_enterProduct.desc).map (fun d => d.parameters.length) = some 2 := by decide +kernel
set_option maxHeartbeats 4000000 in
set_option maxRecDepth 100000 in
theorem kX0_enterProduct (hn : n ≤ 7) (hc : ct ≤ 12) (hfc : fc ≤ 21) {z1 z2 : Nat} (h1 : z1 < 56) (h2 : z2 < 56) : mV (S := CS) l yX0_enterProduct wsX0_enterProduct ({ frames := 4, cells := 0, slots := 0, locals := 94 } : Room) [.ref h, .int (nI (z1)), .int (nI (z2))] D (gT cI cG cZ) (gW cI cG h a g f ra (nI (n)) (nI (id)) (nI (ct)) (nI (fc)) (ad) (fl) (R)) (fun u => gW cI cG h a g f ra (nI n) (nI id) (nI ct) (nI u.2.2) ad u.2.1 (upR R ct u.1)) (fun u => u = epS n z1 z2 (R ct, fl, fc)) := by
  refine mV_ofW (cc := cX0_enterProduct) (maxL := 4) (by decide) rfl (Nat.le_of_ble_eq_true rfl) ?_
  intro p e s m args below meth c QQ hx hb hml hown hts hK hP hD hS hret ls hl
  have hl : lv_has ls 4 [(0, .ref h), (1, .int (nI (z1))), (2, .int (nI (z2)))] := hl
  have hown : s.vm.findClass RX0 = some m.cls := hown
  have hin0 : ∀ w ∈ wsX00, w ∈ wsX0_enterProduct := fun w h => List.mem_cons_of_mem _ (List.mem_append_right _ h)
  have hl_chains : (Cond.fieldLink RX0 15 "PermGroup" "chains" "[[I").before args s = true := hts _ (by decide +kernel)
  have hl_count : (Cond.fieldLink RX0 33 "PermGroup" "count" "I").before args s = true := hts _ (by decide +kernel)
  generalize inW (gW cI cG h a g f ra (nI (n)) (nI (id)) (nI (ct)) (nI (fc)) (ad) (fl) (R)) = A at hD hS hret
  suffices start : ∀ (H : Heap) (locs : List Loc), va_P D vwCl (gW cI cG h a g f ra (nI (n)) (nI (id)) (nI (ct)) (nI (fc)) (ad) (fl) (R)) H → va_D A (gW cI cG h a g f ra (nI (n)) (nI (id)) (nI (ct)) (nI (fc)) (ad) (fl) (R)) → va_S A s.heap H locs → W p l e ({ frames := 4, cells := 0, slots := 0, locals := 94 } : Room) s m args below meth c H locs 0 0 QQ (F0 m 0 ls []) from start s.heap [] hP hD hS
  clear hP hD hS
  intro H locs hP hD hS
  refine lv_aload_n hx hb dX0_enterProduct_0 rfl (lv_at hl 0 rfl) ?_
  refine va_get (D := D) (ci := 0) (v := .ref g) (C := RX0) (T := TX0) (N := 7) hx hb hts hin0 hown hK hP 0 rfl rfl 4 (by decide) hl_chains (fun _ h9 => h9) rfl dX0_enterProduct_1 ?_
  refine lv_aload_n hx hb dX0_enterProduct_4 rfl (lv_at hl 0 rfl) ?_
  refine va_get (D := D) (ci := 0) (v := .int (nI (ct))) (C := RX0) (T := TX0) (N := 7) hx hb hts hin0 hown hK hP 0 rfl rfl 2 (by decide) hl_count (fun _ h9 => h9) rfl dX0_enterProduct_5 ?_
  refine ga_row hx hb hK hP (by omega) dX0_enterProduct_8 ?_
  refine lv_astore_n (lv' := [(3, .ref (ra ct)), (0, .ref h), (1, .int (nI (z1))), (2, .int (nI (z2)))]) hx hb dX0_enterProduct_9 rfl hl (by decide) rfl (fun ls hl => ?_)
  refine lv_iload_n hx hb dX0_enterProduct_10 rfl (lv_at hl 2 rfl) ?_
  refine lv_bipush (v := nI (8)) hx hb dX0_enterProduct_11 (by decide) ?_
  refine lv_idiv hx hb dX0_enterProduct_13 (nI_ne0 (by omega) (by omega)) ?_
  refine pu_tp (pk_div (by omega) (by omega) (by omega)) ?_
  refine lv_iload_n hx hb dX0_enterProduct_14 rfl (lv_at hl 3 rfl) ?_
  refine lv_bipush (v := nI (8)) hx hb dX0_enterProduct_15 (by decide) ?_
  refine lv_idiv hx hb dX0_enterProduct_17 (nI_ne0 (by omega) (by omega)) ?_
  refine pu_tp (pk_div (by omega) (by omega) (by omega)) ?_
  refine lv_icmp_gt (tgt := 35) hx hb dX0_enterProduct_18 (by decide) (fun c_18 => ?_) (fun c_18 => ?_)
  ·
    have c_18 := (nI_ltI (by omega) (by omega)).mp c_18
    exact hret (R ct, fl, fc) H locs _ _ (if_neg (by omega)).symm (by show va_P D vwCl (gW cI cG h a g f ra (nI n) (nI id) (nI ct) (nI fc) ad fl (upR R ct (R ct))) H; rw [upR_id]; exact hP) hS dX0_enterProduct_35
  ·
    have c_18 : ¬ _ := fun h9 => c_18 ((nI_ltI (by omega) (by omega)).mpr h9)
    refine lv_aload_n hx hb dX0_enterProduct_21 rfl (lv_at hl 1 rfl) ?_
    refine lv_aload_n hx hb dX0_enterProduct_22 rfl (lv_at hl 1 rfl) ?_
    refine lv_aload_n hx hb dX0_enterProduct_23 rfl (lv_at hl 0 rfl) ?_
    refine lv_iload_n hx hb dX0_enterProduct_24 rfl (lv_at hl 2 rfl) ?_
    refine va_iald hx hb hK hP (ct + 4) 0 (gW_row (by omega)) rfl (vp_in_nI (by omega) (by omega)) dX0_enterProduct_25 ?_
    refine pu_tp (nb_clamp (f := ((R) ct)) (by omega)) ?_
    refine pu_tp (z := nI (tn (R ct z1))) ((nI_tn _).symm) ?_
    refine lv_aload_n hx hb dX0_enterProduct_26 rfl (lv_at hl 0 rfl) ?_
    refine lv_iload_n hx hb dX0_enterProduct_27 rfl (lv_at hl 3 rfl) ?_
    refine va_iald hx hb hK hP (ct + 4) 0 (gW_row (by omega)) rfl (vp_in_nI (by omega) (by omega)) dX0_enterProduct_28 ?_
    refine pu_tp (nb_clamp (f := ((R) ct)) (by omega)) ?_
    refine pu_tp (z := nI (tn (R ct z2))) ((nI_tn _).symm) ?_
    refine pu_V (As := [.int (nI (tn (R ct z1))), .int (nI (tn (R ct z2)))]) (rest := [.ref h]) (b := h) ⟨hx, hb, hml, hown, hts⟩ (kX0_compose hP hn (P := tn (R ct z1)) (Q := tn (R ct z2)) (tn_lt _) (tn_lt _)) (cwV 2 hts gX0_enterProduct_X0_compose rfl rfl rfl eX0_compose ⟨by decide, by decide⟩) (va_recv hK hP (ci := 0) (q0 := 0) rfl rfl) hK rfl hl.1 rfl (Nat.le_of_ble_eq_true rfl) dX0_enterProduct_29 ⟨Nat.zero_le _, Nat.zero_le _⟩ ?_
    refine mv_V (As := [.int (nI (tm n (tn (R ct z1)) (tn (R ct z2))))]) (rest := []) (b := h) ⟨hx, hb, hml, hown, hts⟩ (kX0_enter hn hc hfc (P := tm n (tn (R ct z1)) (tn (R ct z2))) (Nat.lt_trans (tm_lt hn _ _) (by decide))) (cwV 1 hts gX0_enterProduct_X0_enter rfl rfl rfl eX0_enter ⟨by decide, by decide⟩) (va_recv hK hP (ci := 0) (q0 := 0) rfl rfl) hK hP hD hS rfl hl.1 rfl (Nat.le_of_ble_eq_true rfl) dX0_enterProduct_32 ⟨Nat.zero_le _, Nat.zero_le _⟩ (fun u H locs hw hP hS hk => ?_)
    exact hret u H locs _ _ (hw.trans (if_pos (Nat.le_of_not_lt c_18)).symm) hP hS dX0_enterProduct_35
theorem eX0_extendBy : yX0_extendBy.cls = RX0 ∧ yX0_extendBy.cls ≠ "java/lang/invoke/MethodHandle" ∧ yX0_extendBy.cls ≠ "java/lang/invoke/VarHandle" ∧ (parseMethodDescriptor yX0_extendBy.desc).map (fun d => d.parameters.length) = some 1 := by decide +kernel
set_option maxHeartbeats 4000000 in
set_option maxRecDepth 100000 in
theorem kX0_extendBy (hn : n ≤ 7) (hn1 : 1 ≤ n) (hc : ct ≤ 12) {P : Nat} (hp : P < 2 ^ 32) : mV (S := CS) l yX0_extendBy wsX0_extendBy ({ frames := 5, cells := 0, slots := 0, locals := 117 } : Room) [.ref h, .int (nI (P))] D (gT cI cG cZ) (gW cI cG h a g f ra (nI (n)) (nI (id)) (nI (ct)) (nI (fc)) (ad) (fl) (R)) (fun u => gW cI cG h a g f ra (nI n) (nI id) (nI ct) (nI u.2.2) ad u.2.1 (upR R ct u.1)) (fun u => u = exS n P (R ct) fl) := by
  refine mV_ofW (cc := cX0_extendBy) (maxL := 5) (by decide) rfl (Nat.le_of_ble_eq_true rfl) ?_
  intro p e s m args below meth c QQ hx hb hml hown hts hK hP hD hS hret ls hl
  have hl : lv_has ls 5 [(0, .ref h), (1, .int (nI (P)))] := hl
  have hown : s.vm.findClass RX0 = some m.cls := hown
  have hin0 : ∀ w ∈ wsX00, w ∈ wsX0_extendBy := fun w h => List.mem_cons_of_mem _ (List.mem_append_right _ h)
  have hl_filled : (Cond.fieldLink RX0 18 "PermGroup" "filled" "[I").before args s = true := hts _ (by decide +kernel)
  have hl_filledCount : (Cond.fieldLink RX0 106 "PermGroup" "filledCount" "I").before args s = true := hts _ (by decide +kernel)
  generalize inW (gW cI cG h a g f ra (nI (n)) (nI (id)) (nI (ct)) (nI (fc)) (ad) (fl) (R)) = A at hD hS hret
  suffices start : ∀ (H : Heap) (locs : List Loc), va_P D vwCl (gW cI cG h a g f ra (nI (n)) (nI (id)) (nI (ct)) (nI (fc)) (ad) (fl) (R)) H → va_D A (gW cI cG h a g f ra (nI (n)) (nI (id)) (nI (ct)) (nI (fc)) (ad) (fl) (R)) → va_S A s.heap H locs → W p l e ({ frames := 5, cells := 0, slots := 0, locals := 117 } : Room) s m args below meth c H locs 0 0 QQ (F0 m 0 ls []) from start s.heap [] hP hD hS
  clear hP hD hS
  intro H locs hP hD hS
  refine lv_aload_n hx hb dX0_extendBy_0 rfl (lv_at hl 0 rfl) ?_
  refine mv_V (As := []) (rest := []) (b := h) ⟨hx, hb, hml, hown, hts⟩ (kX0_listFilled hn hc) (cwV 0 hts gX0_extendBy_X0_listFilled rfl rfl rfl eX0_listFilled ⟨by decide, by decide⟩) (va_recv hK hP (ci := 0) (q0 := 0) rfl rfl) hK hP hD hS rfl hl.1 rfl (Nat.le_of_ble_eq_true rfl) dX0_extendBy_1 ⟨Nat.zero_le _, Nat.zero_le _⟩ (fun u H locs hw hP hS hk => ?_)
  obtain ⟨u0, hu0⟩ : ∃ z, z = u := ⟨u, rfl⟩
  rw [← hu0] at hP hw
  have hP : va_P D vwCl (gW cI cG h a g f ra (nI (n)) (nI (id)) (nI (ct)) (nI (u0.2.2)) (ad) (u0.2.1) (upR R ct u0.1)) H := hP
  have hD : va_D A (gW cI cG h a g f ra (nI (n)) (nI (id)) (nI (ct)) (nI (u0.2.2)) (ad) (u0.2.1) (upR R ct u0.1)) := gW_addr hD
  have hok0 : sOK u0 := by rw [hw]; exact sOK_lf hn n 0 _ (by omega) (sOK_0 _ _)
  have hw0 := hw
  refine lv_aload_n hx hb dX0_extendBy_4 rfl (lv_at hl 0 rfl) ?_
  refine va_get (D := D) (ci := 0) (v := .int (nI (u0.2.2))) (C := RX0) (T := TX0) (N := 7) hx hb hts hin0 hown hK hP 0 rfl rfl 6 (by decide) hl_filledCount (fun _ h9 => h9) rfl dX0_extendBy_5 ?_
  refine lv_istore_n (lv' := [(2, .int (nI (u0.2.2))), (0, .ref h), (1, .int (nI (P)))]) hx hb dX0_extendBy_8 rfl hl (by decide) rfl (fun ls hl => ?_)
  refine lv_aload_n hx hb dX0_extendBy_9 rfl (lv_at hl 1 rfl) ?_
  refine lv_iload_n hx hb dX0_extendBy_10 rfl (lv_at hl 2 rfl) ?_
  refine mv_V (As := [.int (nI (P))]) (rest := []) (b := h) ⟨hx, hb, hml, hown, hts⟩ (kX0_enter hn hc hok0.1 hp) (cwV 1 hts gX0_extendBy_X0_enter rfl rfl rfl eX0_enter ⟨by decide, by decide⟩) (va_recv hK hP (ci := 0) (q0 := 0) rfl rfl) hK hP hD hS rfl hl.1 rfl (Nat.le_of_ble_eq_true rfl) dX0_extendBy_11 ⟨Nat.zero_le _, Nat.zero_le _⟩ (fun u H locs hw hP hS hk => ?_)
  obtain ⟨u1, hu1⟩ : ∃ z, z = u := ⟨u, rfl⟩
  rw [← hu1] at hP hw
  rw [upR_u] at hP
  rw [upR_s] at hw
  have hP : va_P D vwCl (gW cI cG h a g f ra (nI (n)) (nI (id)) (nI (ct)) (nI (u1.2.2)) (ad) (u1.2.1) (upR R ct u1.1)) H := hP
  have hD : va_D A (gW cI cG h a g f ra (nI (n)) (nI (id)) (nI (ct)) (nI (u1.2.2)) (ad) (u1.2.1) (upR R ct u1.1)) := gW_addr hD
  have hw1 : u1 = enS n P u0 := hw
  have hok1 : sOK u1 := by rw [hw1]; exact sOK_en _ n 0 u0 (by omega) hok0
  refine lv_iload_n hx hb dX0_extendBy_14 rfl (lv_at hl 0 rfl) ?_
  refine lv_istore_n (lv' := [(3, .int (nI (u0.2.2))), (2, .int (nI (u0.2.2))), (0, .ref h), (1, .int (nI (P)))]) hx hb dX0_extendBy_15 rfl hl (by decide) rfl (fun ls hl => ?_)
  have loop_16 : ∀ (k i : Nat) (z : CS) (H : Heap) (locs : List Loc), (i + k = 21) → (exS n P (R ct) fl = exF n k i z) → (sOK z) → va_P D vwCl (gW cI cG h a g f ra (nI (n)) (nI (id)) (nI (ct)) (nI (z.2.2)) (ad) (z.2.1) (upR R ct z.1)) H → va_D A (gW cI cG h a g f ra (nI (n)) (nI (id)) (nI (ct)) (nI (z.2.2)) (ad) (z.2.1) (upR R ct z.1)) → va_S A s.heap H locs → ∀ (ls : Array Slot), lv_has ls 5 [(0, .ref h), (3, .int (nI (i)))] → W p l e ({ frames := 5, cells := 0, slots := 0, locals := 117 } : Room) s m args below meth c H locs 0 0 QQ (F0 m 16 ls []) := by
    intro k
    induction k with
    | zero =>
      intro i z H locs hk hr hok hP hD hS ls hl
      refine lv_iload_n hx hb dX0_extendBy_16 rfl (lv_at hl 1 rfl) ?_
      refine lv_bipush (v := nI (21)) hx hb dX0_extendBy_17 (by decide) ?_
      refine lv_icmp_ge (tgt := 93) hx hb dX0_extendBy_19 (by decide) (fun c_19 => ?_) (fun c_19 => ?_)
      ·
        have c_19 := (nI_leI (by omega) (by omega)).mp c_19
        exact hret z H locs _ _ hr.symm hP hS dX0_extendBy_93
      ·
        have c_19 : ¬ _ := fun h9 => c_19 ((nI_leI (by omega) (by omega)).mpr h9)
        exfalso; omega
    | succ k ih_16 =>
      intro i z H locs hk hr hok hP hD hS ls hl
      refine lv_iload_n hx hb dX0_extendBy_16 rfl (lv_at hl 1 rfl) ?_
      refine lv_bipush (v := nI (21)) hx hb dX0_extendBy_17 (by decide) ?_
      refine lv_icmp_ge (tgt := 93) hx hb dX0_extendBy_19 (by decide) (fun c_19 => ?_) (fun c_19 => ?_)
      ·
        have c_19 := (nI_leI (by omega) (by omega)).mp c_19
        exfalso; omega
      ·
        have c_19 : ¬ _ := fun h9 => c_19 ((nI_leI (by omega) (by omega)).mpr h9)
        refine lv_iload_n hx hb dX0_extendBy_22 rfl (lv_at hl 1 rfl) ?_
        refine lv_aload_n hx hb dX0_extendBy_23 rfl (lv_at hl 0 rfl) ?_
        refine va_get (D := D) (ci := 0) (v := .int (nI (z.2.2))) (C := RX0) (T := TX0) (N := 7) hx hb hts hin0 hown hK hP 0 rfl rfl 6 (by decide) hl_filledCount (fun _ h9 => h9) rfl dX0_extendBy_24 ?_
        refine lv_icmp_ge (tgt := 37) hx hb dX0_extendBy_27 (by decide) (fun c_27 => ?_) (fun c_27 => ?_)
        ·
          have c_27 := (nI_leI (by have := hok.1; omega) (by have := hok.1; omega)).mp c_27
          exact hret z H locs _ _ (by first | exact (hr.trans (if_pos (Or.inl c_27))).symm | exact (hr.trans (if_pos (Or.inr (of_decide_eq_true c_34)))).symm) hP hS dX0_extendBy_37
        ·
          have c_27 : ¬ _ := fun h9 => c_27 ((nI_leI (by have := hok.1; omega) (by have := hok.1; omega)).mpr h9)
          refine lv_aload_n hx hb dX0_extendBy_30 rfl (lv_at hl 0 rfl) ?_
          refine pu_V (As := []) (rest := []) (b := h) ⟨hx, hb, hml, hown, hts⟩ (kX0_isFull hP hn hn1 hok.1) (cwV 0 hts gX0_extendBy_X0_isFull rfl rfl rfl eX0_isFull ⟨by decide, by decide⟩) (va_recv hK hP (ci := 0) (q0 := 0) rfl rfl) hK rfl hl.1 rfl (Nat.le_of_ble_eq_true rfl) dX0_extendBy_31 ⟨Nat.zero_le _, Nat.zero_le _⟩ ?_
          refine lv_if_eq (tgt := 38) hx hb dX0_extendBy_34 (by decide) (fun c_34 => ?_) (fun c_34 => ?_)
          ·
            have c_34 := b01_f c_34
            refine lv_iconst (v := nI (0)) hx hb dX0_extendBy_38 (by decide) ?_
            refine lv_istore (lv' := [(4, .int (nI (0))), (0, .ref h), (3, .int (nI (i)))]) hx hb dX0_extendBy_39 hl (by decide) rfl (fun ls hl => ?_)
            have loop_41 : ∀ (k2 j : Nat) (v : CS) (H : Heap) (locs : List Loc), (j + k2 = i + 1) → (exI n i (i + 1) 0 z = exI n i k2 j v) → (sOK v) → (i < v.2.2) → va_P D vwCl (gW cI cG h a g f ra (nI (n)) (nI (id)) (nI (ct)) (nI (v.2.2)) (ad) (v.2.1) (upR R ct v.1)) H → va_D A (gW cI cG h a g f ra (nI (n)) (nI (id)) (nI (ct)) (nI (v.2.2)) (ad) (v.2.1) (upR R ct v.1)) → va_S A s.heap H locs → ∀ (ls : Array Slot), lv_has ls 5 [(0, .ref h), (3, .int (nI (i))), (4, .int (nI (j)))] → W p l e ({ frames := 5, cells := 0, slots := 0, locals := 117 } : Room) s m args below meth c H locs 0 0 QQ (F0 m 41 ls []) := by
              intro k2
              induction k2 with
              | zero =>
                intro j v H locs hk2 hr2 hokv hiv hP hD hS ls hl
                refine lv_iload hx hb dX0_extendBy_41 (lv_at hl 2 rfl) ?_
                refine lv_iload_n hx hb dX0_extendBy_43 rfl (lv_at hl 1 rfl) ?_
                refine lv_icmp_gt (tgt := 87) hx hb dX0_extendBy_44 (by decide) (fun c_44 => ?_) (fun c_44 => ?_)
                ·
                  have c_44 := (nI_ltI (by omega) (by omega)).mp c_44
                  refine lv_iinc (v := nI (i + 1)) (lv' := [(3, .int (nI (i + 1))), (0, .ref h), (4, .int (nI (j)))]) hx hb dX0_extendBy_87 hl (k := 1) rfl (nI_1 _) (by decide) rfl (fun ls hl => ?_)
                  refine lv_goto (tgt := 16) hx hb dX0_extendBy_90 (by decide) ?_
                  exact ih_16 (i + 1) v H locs (by omega) (by have hz : v = exI n i (i + 1) 0 z := hr2.symm; rw [hz]; exact hr.trans (if_neg (fun q => q.elim (fun q => c_27 q) (fun q => absurd q (of_decide_eq_false c_34))))) hokv hP hD hS ls (lv_sub hl [1, 0] rfl)
                ·
                  have c_44 : ¬ _ := fun h9 => c_44 ((nI_ltI (by omega) (by omega)).mpr h9)
                  exfalso; omega
              | succ k2 ih_41 =>
                intro j v H locs hk2 hr2 hokv hiv hP hD hS ls hl
                refine lv_iload hx hb dX0_extendBy_41 (lv_at hl 2 rfl) ?_
                refine lv_iload_n hx hb dX0_extendBy_43 rfl (lv_at hl 1 rfl) ?_
                refine lv_icmp_gt (tgt := 87) hx hb dX0_extendBy_44 (by decide) (fun c_44 => ?_) (fun c_44 => ?_)
                ·
                  have c_44 := (nI_ltI (by omega) (by omega)).mp c_44
                  exfalso; omega
                ·
                  have c_44 : ¬ _ := fun h9 => c_44 ((nI_ltI (by omega) (by omega)).mpr h9)
                  refine lv_aload_n hx hb dX0_extendBy_47 rfl (lv_at hl 0 rfl) ?_
                  refine lv_aload_n hx hb dX0_extendBy_48 rfl (lv_at hl 0 rfl) ?_
                  refine va_get (D := D) (ci := 0) (v := .ref f) (C := RX0) (T := TX0) (N := 7) hx hb hts hin0 hown hK hP 0 rfl rfl 5 (by decide) hl_filled (fun _ h9 => h9) rfl dX0_extendBy_49 ?_
                  refine lv_iload_n hx hb dX0_extendBy_52 rfl (lv_at hl 1 rfl) ?_
                  refine va_iald hx hb hK hP 3 0 rfl rfl (vp_in_nI (by have := hokv.1; omega) (by decide)) dX0_extendBy_53 ?_
                  refine pu_tp (nb_clamp (f := (v.2.1)) (by omega)) ?_
                  refine pu_tp (z := nI (tn (v.2.1 i))) ((nI_tn _).symm) ?_
                  refine lv_aload_n hx hb dX0_extendBy_54 rfl (lv_at hl 0 rfl) ?_
                  refine va_get (D := D) (ci := 0) (v := .ref f) (C := RX0) (T := TX0) (N := 7) hx hb hts hin0 hown hK hP 0 rfl rfl 5 (by decide) hl_filled (fun _ h9 => h9) rfl dX0_extendBy_55 ?_
                  refine lv_iload hx hb dX0_extendBy_58 (lv_at hl 2 rfl) ?_
                  refine va_iald hx hb hK hP 3 0 rfl rfl (vp_in_nI (by have := hokv.1; omega) (by decide)) dX0_extendBy_60 ?_
                  refine pu_tp (nb_clamp (f := (v.2.1)) (by omega)) ?_
                  refine pu_tp (z := nI (tn (v.2.1 j))) ((nI_tn _).symm) ?_
                  refine mv_V (As := [.int (nI (tn (v.2.1 i))), .int (nI (tn (v.2.1 j)))]) (rest := []) (b := h) ⟨hx, hb, hml, hown, hts⟩ (kX0_enterProduct hn hc hokv.1 (sl_lt hokv hiv) (sl_lt hokv (by omega))) (cwV 2 hts gX0_extendBy_X0_enterProduct rfl rfl rfl eX0_enterProduct ⟨by decide, by decide⟩) (va_recv hK hP (ci := 0) (q0 := 0) rfl rfl) hK hP hD hS rfl hl.1 rfl (Nat.le_of_ble_eq_true rfl) dX0_extendBy_61 ⟨Nat.zero_le _, Nat.zero_le _⟩ (fun u H locs hw hP hS hk => ?_)
                  obtain ⟨v1, hv1⟩ : ∃ z, z = u := ⟨u, rfl⟩
                  rw [← hv1] at hP hw
                  rw [upR_u] at hP
                  rw [upR_s] at hw
                  have hP : va_P D vwCl (gW cI cG h a g f ra (nI (n)) (nI (id)) (nI (ct)) (nI (v1.2.2)) (ad) (v1.2.1) (upR R ct v1.1)) H := hP
                  have hD : va_D A (gW cI cG h a g f ra (nI (n)) (nI (id)) (nI (ct)) (nI (v1.2.2)) (ad) (v1.2.1) (upR R ct v1.1)) := gW_addr hD
                  have hw1 : v1 = exT n i j v := hw
                  have hokv1 : sOK v1 := by rw [hw1]; exact sOK_ep hn hokv
                  have hle1 : v.2.2 ≤ v1.2.2 := by rw [hw1]; exact epS_le _ _ _ _
                  refine lv_aload_n hx hb dX0_extendBy_64 rfl (lv_at hl 0 rfl) ?_
                  refine lv_aload_n hx hb dX0_extendBy_65 rfl (lv_at hl 0 rfl) ?_
                  refine va_get (D := D) (ci := 0) (v := .ref f) (C := RX0) (T := TX0) (N := 7) hx hb hts hin0 hown hK hP 0 rfl rfl 5 (by decide) hl_filled (fun _ h9 => h9) rfl dX0_extendBy_66 ?_
                  refine lv_iload hx hb dX0_extendBy_69 (lv_at hl 2 rfl) ?_
                  refine va_iald hx hb hK hP 3 0 rfl rfl (vp_in_nI (by have := hokv.1; omega) (by decide)) dX0_extendBy_71 ?_
                  refine pu_tp (nb_clamp (f := (v1.2.1)) (by omega)) ?_
                  refine pu_tp (z := nI (tn (v1.2.1 j))) ((nI_tn _).symm) ?_
                  refine lv_aload_n hx hb dX0_extendBy_72 rfl (lv_at hl 0 rfl) ?_
                  refine va_get (D := D) (ci := 0) (v := .ref f) (C := RX0) (T := TX0) (N := 7) hx hb hts hin0 hown hK hP 0 rfl rfl 5 (by decide) hl_filled (fun _ h9 => h9) rfl dX0_extendBy_73 ?_
                  refine lv_iload_n hx hb dX0_extendBy_76 rfl (lv_at hl 1 rfl) ?_
                  refine va_iald hx hb hK hP 3 0 rfl rfl (vp_in_nI (by have := hokv.1; omega) (by decide)) dX0_extendBy_77 ?_
                  refine pu_tp (nb_clamp (f := (v1.2.1)) (by omega)) ?_
                  refine pu_tp (z := nI (tn (v1.2.1 i))) ((nI_tn _).symm) ?_
                  refine mv_V (As := [.int (nI (tn (v1.2.1 j))), .int (nI (tn (v1.2.1 i)))]) (rest := []) (b := h) ⟨hx, hb, hml, hown, hts⟩ (kX0_enterProduct hn hc hokv1.1 (sl_lt hokv1 (by omega)) (sl_lt hokv1 (by omega))) (cwV 2 hts gX0_extendBy_X0_enterProduct rfl rfl rfl eX0_enterProduct ⟨by decide, by decide⟩) (va_recv hK hP (ci := 0) (q0 := 0) rfl rfl) hK hP hD hS rfl hl.1 rfl (Nat.le_of_ble_eq_true rfl) dX0_extendBy_78 ⟨Nat.zero_le _, Nat.zero_le _⟩ (fun u H locs hw hP hS hk => ?_)
                  obtain ⟨v2, hv2⟩ : ∃ z, z = u := ⟨u, rfl⟩
                  rw [← hv2] at hP hw
                  rw [upR_u] at hP
                  rw [upR_s] at hw
                  have hP : va_P D vwCl (gW cI cG h a g f ra (nI (n)) (nI (id)) (nI (ct)) (nI (v2.2.2)) (ad) (v2.2.1) (upR R ct v2.1)) H := hP
                  have hD : va_D A (gW cI cG h a g f ra (nI (n)) (nI (id)) (nI (ct)) (nI (v2.2.2)) (ad) (v2.2.1) (upR R ct v2.1)) := gW_addr hD
                  have hw2 : v2 = exT n j i v1 := hw
                  have hokv2 : sOK v2 := by rw [hw2]; exact sOK_ep hn hokv1
                  have hle2 : v1.2.2 ≤ v2.2.2 := by rw [hw2]; exact epS_le _ _ _ _
                  refine lv_iinc (v := nI (j + 1)) (lv' := [(4, .int (nI (j + 1))), (0, .ref h), (3, .int (nI (i)))]) hx hb dX0_extendBy_81 hl (k := 2) rfl (nI_1 _) (by decide) rfl (fun ls hl => ?_)
                  refine lv_goto (tgt := 41) hx hb dX0_extendBy_84 (by decide) ?_
                  exact ih_41 (j + 1) v2 H locs (by omega) (by rw [hw2, hw1]; exact hr2) hokv2 (by omega) hP hD hS ls (lv_sub hl [1, 2, 0] rfl)
            exact loop_41 (i + 1) 0 z H locs (by omega) rfl hok (by omega) hP hD hS ls (lv_sub hl [1, 2, 0] rfl)
          ·
            have c_34 := b01_t c_34
            exact hret z H locs _ _ (by first | exact (hr.trans (if_pos (Or.inl c_27))).symm | exact (hr.trans (if_pos (Or.inr (of_decide_eq_true c_34)))).symm) hP hS dX0_extendBy_37
  exact loop_16 (21 - u0.2.2) u0.2.2 u1 H locs (by have := hok0.1; omega) (by rw [hw1, hw0]; rfl) hok1 hP hD hS ls (lv_sub hl [2, 0] rfl)
end CXD
end
section
theorem bg_m {r : Nat → Int32} {i : Nat} (h : ∀ j, j < i → r j = -1) : ∀ j, j < i + 1 → upd r i (-1) j = -1 := by
  intro j hj
  by_cases e : j = i
  · rw [e]; exact pk_us
  · rw [pk_un e]; exact h j (by omega)
theorem bg_d {r : Nat → Int32} {i : Nat} {v : Int32} (hi : i < 7) (h : ∀ j, j < 56 → r j = if j / 8 < i ∧ j % 8 = j / 8 then v else -1) : ∀ j, j < 56 → upd r (i * 8 + i) v j = if j / 8 < i + 1 ∧ j % 8 = j / 8 then v else -1 := by
  intro j hj
  by_cases e : j = i * 8 + i
  · rw [e, pk_us, if_pos (by omega)]
  · rw [pk_un e, h j hj]
    by_cases c : j / 8 < i ∧ j % 8 = j / 8
    · rw [if_pos c, if_pos (by omega)]
    · rw [if_neg c, if_neg (by omega)]
section CXE
variable {l : Launch} {D : va_G} {cI cG cZ : ClassId} {h a g f : Nat} {ra : Nat → Nat} {n id ct fc : Nat} {ad fl : Nat → Int32} {R : Nat → Nat → Int32}
theorem eX0_begin : yX0_begin.cls = RX0 ∧ yX0_begin.cls ≠ "java/lang/invoke/MethodHandle" ∧ yX0_begin.cls ≠ "java/lang/invoke/VarHandle" ∧ (parseMethodDescriptor yX0_begin.desc).map (fun d => d.parameters.length) = some 1 := by decide +kernel
set_option maxHeartbeats 4000000 in
set_option maxRecDepth 100000 in
theorem kX0_begin {nn : Nat} (hn : nn ≤ 7) : mV (S := (Nat → Nat → Int32)) l yX0_begin wsX0_begin ({ frames := 1, cells := 0, slots := 0, locals := 21 } : Room) [.ref h, .int (nI (nn))] D (gT cI cG cZ) (gW cI cG h a g f ra (nI (n)) (nI (id)) (nI (ct)) (nI (fc)) (ad) (fl) (R)) (fun u => gW cI cG h a g f ra (nI nn) (nI (idn nn)) (nI 0) (nI fc) ad fl u) (fun u => ∀ j, j < 56 → u 0 j = bgR nn j) := by
  refine mV_ofW (cc := cX0_begin) (maxL := 4) (by decide) rfl (Nat.le_of_ble_eq_true rfl) ?_
  intro p e s m args below meth c QQ hx hb hml hown hts hK hP hD hS hret ls hl
  have hl : lv_has ls 4 [(0, .ref h), (1, .int (nI (nn)))] := hl
  have hown : s.vm.findClass RX0 = some m.cls := hown
  have hin0 : ∀ w ∈ wsX00, w ∈ wsX0_begin := fun w h => List.mem_cons_of_mem _ (List.mem_append_right _ h)
  have hl_chains : (Cond.fieldLink RX0 15 "PermGroup" "chains" "[[I").before args s = true := hts _ (by decide +kernel)
  have hl_count : (Cond.fieldLink RX0 33 "PermGroup" "count" "I").before args s = true := hts _ (by decide +kernel)
  have hl_identity : (Cond.fieldLink RX0 66 "PermGroup" "identity" "I").before args s = true := hts _ (by decide +kernel)
  have hl_n : (Cond.fieldLink RX0 25 "PermGroup" "n" "I").before args s = true := hts _ (by decide +kernel)
  generalize inW (gW cI cG h a g f ra (nI (n)) (nI (id)) (nI (ct)) (nI (fc)) (ad) (fl) (R)) = A at hD hS hret
  suffices start : ∀ (H : Heap) (locs : List Loc), va_P D vwCl (gW cI cG h a g f ra (nI (n)) (nI (id)) (nI (ct)) (nI (fc)) (ad) (fl) (R)) H → va_D A (gW cI cG h a g f ra (nI (n)) (nI (id)) (nI (ct)) (nI (fc)) (ad) (fl) (R)) → va_S A s.heap H locs → W p l e ({ frames := 1, cells := 0, slots := 0, locals := 21 } : Room) s m args below meth c H locs 0 0 QQ (F0 m 0 ls []) from start s.heap [] hP hD hS
  clear hP hD hS
  intro H locs hP hD hS
  refine lv_aload_n hx hb dX0_begin_0 rfl (lv_at hl 0 rfl) ?_
  refine lv_iload_n hx hb dX0_begin_1 rfl (lv_at hl 1 rfl) ?_
  refine va_put (D := D) (ci := 0) (v := .int (nI (nn))) (ty := .int) (C := RX0) (T := TX0) (N := 7) hx hb hts hin0 tyX0 tyX0_ok nmX0 hown hK hP hD hS 0 rfl rfl 0 (by decide) hl_n (fun _ h9 => h9) rfl (by decide +kernel) rfl rfl (Nat.le_of_ble_eq_true rfl) dX0_begin_2 (fun H locs hP hD hS => ?_)
  have hP : va_P D vwCl (gW cI cG h a g f ra (nI (nn)) (nI (id)) (nI (ct)) (nI (fc)) (ad) (fl) (R)) H := hP
  have hD : va_D A (gW cI cG h a g f ra (nI (nn)) (nI (id)) (nI (ct)) (nI (fc)) (ad) (fl) (R)) := hD
  refine lv_aload_n hx hb dX0_begin_5 rfl (lv_at hl 0 rfl) ?_
  refine lv_iconst (v := nI (0)) hx hb dX0_begin_6 (by decide) ?_
  refine va_put (D := D) (ci := 0) (v := .int (nI (0))) (ty := .int) (C := RX0) (T := TX0) (N := 7) hx hb hts hin0 tyX0 tyX0_ok nmX0 hown hK hP hD hS 0 rfl rfl 2 (by decide) hl_count (fun _ h9 => h9) rfl (by decide +kernel) rfl rfl (Nat.le_of_ble_eq_true rfl) dX0_begin_7 (fun H locs hP hD hS => ?_)
  have hP : va_P D vwCl (gW cI cG h a g f ra (nI (nn)) (nI (id)) (nI (0)) (nI (fc)) (ad) (fl) (R)) H := hP
  have hD : va_D A (gW cI cG h a g f ra (nI (nn)) (nI (id)) (nI (0)) (nI (fc)) (ad) (fl) (R)) := hD
  refine lv_aload_n hx hb dX0_begin_10 rfl (lv_at hl 0 rfl) ?_
  refine lv_iconst (v := nI (0)) hx hb dX0_begin_11 (by decide) ?_
  refine va_put (D := D) (ci := 0) (v := .int (nI (0))) (ty := .int) (C := RX0) (T := TX0) (N := 7) hx hb hts hin0 tyX0 tyX0_ok nmX0 hown hK hP hD hS 0 rfl rfl 1 (by decide) hl_identity (fun _ h9 => h9) rfl (by decide +kernel) rfl rfl (Nat.le_of_ble_eq_true rfl) dX0_begin_12 (fun H locs hP hD hS => ?_)
  have hP : va_P D vwCl (gW cI cG h a g f ra (nI (nn)) (nI (0)) (nI (0)) (nI (fc)) (ad) (fl) (R)) H := hP
  have hD : va_D A (gW cI cG h a g f ra (nI (nn)) (nI (0)) (nI (0)) (nI (fc)) (ad) (fl) (R)) := hD
  refine lv_iconst (v := nI (0)) hx hb dX0_begin_15 (by decide) ?_
  refine lv_istore_n (lv' := [(2, .int (nI (0))), (0, .ref h), (1, .int (nI (nn)))]) hx hb dX0_begin_16 rfl hl (by decide) rfl (fun ls hl => ?_)
  have loop_17 : ∀ (k i x : Nat) (H : Heap) (locs : List Loc), (i + k = nn) → (idn nn = idF k i x) → va_P D vwCl (gW cI cG h a g f ra (nI (nn)) (nI (x)) (nI (0)) (nI (fc)) (ad) (fl) (R)) H → va_D A (gW cI cG h a g f ra (nI (nn)) (nI (x)) (nI (0)) (nI (fc)) (ad) (fl) (R)) → va_S A s.heap H locs → ∀ (ls : Array Slot), lv_has ls 4 [(0, .ref h), (2, .int (nI (i)))] → W p l e ({ frames := 1, cells := 0, slots := 0, locals := 21 } : Room) s m args below meth c H locs 0 0 QQ (F0 m 17 ls []) := by
    intro k
    induction k with
    | zero =>
      intro i x H locs hk hr hP hD hS ls hl
      refine lv_iload_n hx hb dX0_begin_17 rfl (lv_at hl 1 rfl) ?_
      refine lv_aload_n hx hb dX0_begin_18 rfl (lv_at hl 0 rfl) ?_
      refine va_get (D := D) (ci := 0) (v := .int (nI (nn))) (C := RX0) (T := TX0) (N := 7) hx hb hts hin0 hown hK hP 0 rfl rfl 0 (by decide) hl_n (fun _ h9 => h9) rfl dX0_begin_19 ?_
      refine lv_icmp_ge (tgt := 45) hx hb dX0_begin_22 (by decide) (fun c_22 => ?_) (fun c_22 => ?_)
      ·
        have c_22 := (nI_leI (by omega) (by omega)).mp c_22
        have hidx : idn nn = x := hr
        rw [← hidx] at hP hD
        refine lv_aload_n hx hb dX0_begin_45 rfl (lv_at hl 0 rfl) ?_
        refine va_get (D := D) (ci := 0) (v := .ref g) (C := RX0) (T := TX0) (N := 7) hx hb hts hin0 hown hK hP 0 rfl rfl 4 (by decide) hl_chains (fun _ h9 => h9) rfl dX0_begin_46 ?_
        refine lv_iconst (v := nI (0)) hx hb dX0_begin_49 (by decide) ?_
        refine ga_row hx hb hK hP (by omega) dX0_begin_50 ?_
        refine lv_astore_n (lv' := [(2, .ref (ra 0)), (0, .ref h)]) hx hb dX0_begin_51 rfl hl (by decide) rfl (fun ls hl => ?_)
        refine lv_iconst (v := nI (0)) hx hb dX0_begin_52 (by decide) ?_
        have hP : va_P D vwCl (gW cI cG h a g f ra (nI (nn)) (nI (idn nn)) (nI (0)) (nI (fc)) (ad) (fl) (upR R 0 (R 0))) H := by rw [upR_id]; exact hP
        have hD : va_D A (gW cI cG h a g f ra (nI (nn)) (nI (idn nn)) (nI (0)) (nI (fc)) (ad) (fl) (upR R 0 (R 0))) := gW_addr hD
        skip
        refine lv_istore_n (lv' := [(3, .int (nI (0))), (2, .ref (ra 0)), (0, .ref h)]) hx hb dX0_begin_53 rfl hl (by decide) rfl (fun ls hl => ?_)
        have loop_54 : ∀ (k i : Nat) (r : Nat → Int32) (H : Heap) (locs : List Loc), (i + k = 56) → (∀ j, j < i → r j = -1) → va_P D vwCl (gW cI cG h a g f ra (nI (nn)) (nI (idn nn)) (nI (0)) (nI (fc)) (ad) (fl) (upR R 0 r)) H → va_D A (gW cI cG h a g f ra (nI (nn)) (nI (idn nn)) (nI (0)) (nI (fc)) (ad) (fl) (upR R 0 r)) → va_S A s.heap H locs → ∀ (ls : Array Slot), lv_has ls 4 [(0, .ref h), (2, .ref (ra 0)), (3, .int (nI (i)))] → W p l e ({ frames := 1, cells := 0, slots := 0, locals := 21 } : Room) s m args below meth c H locs 0 0 QQ (F0 m 54 ls []) := by
          intro k
          induction k with
          | zero =>
            intro i r H locs hk hrow hP hD hS ls hl
            refine lv_iload_n hx hb dX0_begin_54 rfl (lv_at hl 2 rfl) ?_
            refine lv_bipush (v := nI (56)) hx hb dX0_begin_55 (by decide) ?_
            refine lv_icmp_ge (tgt := 70) hx hb dX0_begin_57 (by decide) (fun c_57 => ?_) (fun c_57 => ?_)
            ·
              have c_57 := (nI_leI (by omega) (by omega)).mp c_57
              refine lv_iconst (v := nI (0)) hx hb dX0_begin_70 (by decide) ?_
              refine lv_istore_n (lv' := [(3, .int (nI (0))), (0, .ref h), (2, .ref (ra 0))]) hx hb dX0_begin_71 rfl hl (by decide) rfl (fun ls hl => ?_)
              have loop_72 : ∀ (k i : Nat) (r : Nat → Int32) (H : Heap) (locs : List Loc), (i + k = nn) → (∀ j, j < 56 → r j = if j / 8 < i ∧ j % 8 = j / 8 then nI (idn nn) else -1) → va_P D vwCl (gW cI cG h a g f ra (nI (nn)) (nI (idn nn)) (nI (0)) (nI (fc)) (ad) (fl) (upR R 0 r)) H → va_D A (gW cI cG h a g f ra (nI (nn)) (nI (idn nn)) (nI (0)) (nI (fc)) (ad) (fl) (upR R 0 r)) → va_S A s.heap H locs → ∀ (ls : Array Slot), lv_has ls 4 [(0, .ref h), (2, .ref (ra 0)), (3, .int (nI (i)))] → W p l e ({ frames := 1, cells := 0, slots := 0, locals := 21 } : Room) s m args below meth c H locs 0 0 QQ (F0 m 72 ls []) := by
                intro k
                induction k with
                | zero =>
                  intro i r H locs hk hrow hP hD hS ls hl
                  refine lv_iload_n hx hb dX0_begin_72 rfl (lv_at hl 2 rfl) ?_
                  refine lv_aload_n hx hb dX0_begin_73 rfl (lv_at hl 0 rfl) ?_
                  refine va_get (D := D) (ci := 0) (v := .int (nI (nn))) (C := RX0) (T := TX0) (N := 7) hx hb hts hin0 hown hK hP 0 rfl rfl 0 (by decide) hl_n (fun _ h9 => h9) rfl dX0_begin_74 ?_
                  refine lv_icmp_ge (tgt := 97) hx hb dX0_begin_77 (by decide) (fun c_77 => ?_) (fun c_77 => ?_)
                  ·
                    have c_77 := (nI_leI (by omega) (by omega)).mp c_77
                    exact hret (upR R 0 r) H locs _ _ (fun j hj => by rw [upR_s]; exact (hrow j hj).trans (by rw [show i = nn by omega]; rfl)) hP hS dX0_begin_97
                  ·
                    have c_77 : ¬ _ := fun h9 => c_77 ((nI_leI (by omega) (by omega)).mpr h9)
                    exfalso; omega
                | succ k ih_72 =>
                  intro i r H locs hk hrow hP hD hS ls hl
                  refine lv_iload_n hx hb dX0_begin_72 rfl (lv_at hl 2 rfl) ?_
                  refine lv_aload_n hx hb dX0_begin_73 rfl (lv_at hl 0 rfl) ?_
                  refine va_get (D := D) (ci := 0) (v := .int (nI (nn))) (C := RX0) (T := TX0) (N := 7) hx hb hts hin0 hown hK hP 0 rfl rfl 0 (by decide) hl_n (fun _ h9 => h9) rfl dX0_begin_74 ?_
                  refine lv_icmp_ge (tgt := 97) hx hb dX0_begin_77 (by decide) (fun c_77 => ?_) (fun c_77 => ?_)
                  ·
                    have c_77 := (nI_leI (by omega) (by omega)).mp c_77
                    exfalso; omega
                  ·
                    have c_77 : ¬ _ := fun h9 => c_77 ((nI_leI (by omega) (by omega)).mpr h9)
                    refine lv_aload_n hx hb dX0_begin_80 rfl (lv_at hl 1 rfl) ?_
                    refine lv_iload_n hx hb dX0_begin_81 rfl (lv_at hl 2 rfl) ?_
                    refine lv_iload_n hx hb dX0_begin_82 rfl (lv_at hl 2 rfl) ?_
                    refine pu_S (As := [.int (nI (i)), .int (nI (i))]) (rest := [.ref (ra 0)]) ⟨hx, hb, hml, hown, hts⟩ (kX0_slotOf (x := i) (z := i)) (va_cwS 2 hts gX0_begin_X0_slotOf rfl rfl rfl eX0_slotOf ⟨by decide, by decide⟩) hK rfl hl.1 rfl (Nat.le_of_ble_eq_true rfl) dX0_begin_83 ⟨Nat.zero_le _, Nat.zero_le _⟩ ?_
                    refine lv_aload_n hx hb dX0_begin_86 rfl (lv_at hl 0 rfl) ?_
                    refine va_get (D := D) (ci := 0) (v := .int (nI (idn nn))) (C := RX0) (T := TX0) (N := 7) hx hb hts hin0 hown hK hP 0 rfl rfl 1 (by decide) hl_identity (fun _ h9 => h9) rfl dX0_begin_87 ?_
                    refine ua_row hx hb hK hP hD hS (by omega) (by omega) dX0_begin_90 (fun H locs hP hD hS => ?_)
                    rw [upR_u, upR_s] at hP hD
                    have hP : va_P D vwCl (gW cI cG h a g f ra (nI (nn)) (nI (idn nn)) (nI (0)) (nI (fc)) (ad) (fl) (upR R 0 (upd (r) (i * 8 + i) (nI (idn nn))))) H := hP
                    have hD : va_D A (gW cI cG h a g f ra (nI (nn)) (nI (idn nn)) (nI (0)) (nI (fc)) (ad) (fl) (upR R 0 (upd (r) (i * 8 + i) (nI (idn nn))))) := hD
                    refine lv_iinc (v := nI (i + 1)) (lv' := [(3, .int (nI (i + 1))), (0, .ref h), (2, .ref (ra 0))]) hx hb dX0_begin_91 hl (k := 2) rfl (nI_1 _) (by decide) rfl (fun ls hl => ?_)
                    refine lv_goto (tgt := 72) hx hb dX0_begin_94 (by decide) ?_
                    exact ih_72 (i + 1) (upd r (i * 8 + i) (nI (idn nn))) H locs (by omega) (bg_d (by omega) hrow) hP hD hS ls (lv_sub hl [1, 2, 0] rfl)
              exact loop_72 nn 0 r H locs (by omega) (fun j hj => (hrow j (by omega)).trans (if_neg (by omega)).symm) hP hD hS ls (lv_sub hl [1, 2, 0] rfl)
            ·
              have c_57 : ¬ _ := fun h9 => c_57 ((nI_leI (by omega) (by omega)).mpr h9)
              exfalso; omega
          | succ k ih_54 =>
            intro i r H locs hk hrow hP hD hS ls hl
            refine lv_iload_n hx hb dX0_begin_54 rfl (lv_at hl 2 rfl) ?_
            refine lv_bipush (v := nI (56)) hx hb dX0_begin_55 (by decide) ?_
            refine lv_icmp_ge (tgt := 70) hx hb dX0_begin_57 (by decide) (fun c_57 => ?_) (fun c_57 => ?_)
            ·
              have c_57 := (nI_leI (by omega) (by omega)).mp c_57
              exfalso; omega
            ·
              have c_57 : ¬ _ := fun h9 => c_57 ((nI_leI (by omega) (by omega)).mpr h9)
              refine lv_aload_n hx hb dX0_begin_60 rfl (lv_at hl 1 rfl) ?_
              refine lv_iload_n hx hb dX0_begin_61 rfl (lv_at hl 2 rfl) ?_
              refine lv_iconst (v := -1) hx hb dX0_begin_62 (by decide) ?_
              refine ua_row hx hb hK hP hD hS (by omega) (by omega) dX0_begin_63 (fun H locs hP hD hS => ?_)
              rw [upR_u, upR_s] at hP hD
              have hP : va_P D vwCl (gW cI cG h a g f ra (nI (nn)) (nI (idn nn)) (nI (0)) (nI (fc)) (ad) (fl) (upR R 0 (upd (r) (i) (-1)))) H := hP
              have hD : va_D A (gW cI cG h a g f ra (nI (nn)) (nI (idn nn)) (nI (0)) (nI (fc)) (ad) (fl) (upR R 0 (upd (r) (i) (-1)))) := hD
              refine lv_iinc (v := nI (i + 1)) (lv' := [(3, .int (nI (i + 1))), (0, .ref h), (2, .ref (ra 0))]) hx hb dX0_begin_64 hl (k := 2) rfl (nI_1 _) (by decide) rfl (fun ls hl => ?_)
              refine lv_goto (tgt := 54) hx hb dX0_begin_67 (by decide) ?_
              exact ih_54 (i + 1) (upd r i (-1)) H locs (by omega) (bg_m hrow) hP hD hS ls (lv_sub hl [1, 2, 0] rfl)
        exact loop_54 56 0 (R 0) H locs (by omega) (fun j hj => absurd hj (Nat.not_lt_zero _)) hP hD hS ls (lv_sub hl [2, 1, 0] rfl)
      ·
        have c_22 : ¬ _ := fun h9 => c_22 ((nI_leI (by omega) (by omega)).mpr h9)
        exfalso; omega
    | succ k ih_17 =>
      intro i x H locs hk hr hP hD hS ls hl
      refine lv_iload_n hx hb dX0_begin_17 rfl (lv_at hl 1 rfl) ?_
      refine lv_aload_n hx hb dX0_begin_18 rfl (lv_at hl 0 rfl) ?_
      refine va_get (D := D) (ci := 0) (v := .int (nI (nn))) (C := RX0) (T := TX0) (N := 7) hx hb hts hin0 hown hK hP 0 rfl rfl 0 (by decide) hl_n (fun _ h9 => h9) rfl dX0_begin_19 ?_
      refine lv_icmp_ge (tgt := 45) hx hb dX0_begin_22 (by decide) (fun c_22 => ?_) (fun c_22 => ?_)
      ·
        have c_22 := (nI_leI (by omega) (by omega)).mp c_22
        exfalso; omega
      ·
        have c_22 : ¬ _ := fun h9 => c_22 ((nI_leI (by omega) (by omega)).mpr h9)
        refine lv_aload_n hx hb dX0_begin_25 rfl (lv_at hl 0 rfl) ?_
        refine lv_dup hx hb dX0_begin_26 rfl ?_
        refine va_get (D := D) (ci := 0) (v := .int (nI (x))) (C := RX0) (T := TX0) (N := 7) hx hb hts hin0 hown hK hP 0 rfl rfl 1 (by decide) hl_identity (fun _ h9 => h9) rfl dX0_begin_27 ?_
        refine lv_iload_n hx hb dX0_begin_30 rfl (lv_at hl 1 rfl) ?_
        refine lv_iconst (v := nI (3)) hx hb dX0_begin_31 (by decide) ?_
        refine lv_iload_n hx hb dX0_begin_32 rfl (lv_at hl 1 rfl) ?_
        refine lv_imul hx hb dX0_begin_33 ?_
        refine pu_tp (pk_mul _ _) ?_
        refine lv_ishl hx hb dX0_begin_34 ?_
        refine pu_tp (nb_shl _ (by omega)) ?_
        refine lv_ior hx hb dX0_begin_35 ?_
        refine pu_tp (nb_or _ _) ?_
        refine va_put (D := D) (ci := 0) (v := .int (nI (x ||| (i * 2 ^ (3 * i))))) (ty := .int) (C := RX0) (T := TX0) (N := 7) hx hb hts hin0 tyX0 tyX0_ok nmX0 hown hK hP hD hS 0 rfl rfl 1 (by decide) hl_identity (fun _ h9 => h9) rfl (by decide +kernel) rfl rfl (Nat.le_of_ble_eq_true rfl) dX0_begin_36 (fun H locs hP hD hS => ?_)
        have hP : va_P D vwCl (gW cI cG h a g f ra (nI (nn)) (nI (x ||| (i * 2 ^ (3 * i)))) (nI (0)) (nI (fc)) (ad) (fl) (R)) H := hP
        have hD : va_D A (gW cI cG h a g f ra (nI (nn)) (nI (x ||| (i * 2 ^ (3 * i)))) (nI (0)) (nI (fc)) (ad) (fl) (R)) := hD
        refine lv_iinc (v := nI (i + 1)) (lv' := [(2, .int (nI (i + 1))), (0, .ref h)]) hx hb dX0_begin_39 hl (k := 1) rfl (nI_1 _) (by decide) rfl (fun ls hl => ?_)
        refine lv_goto (tgt := 17) hx hb dX0_begin_42 (by decide) ?_
        exact ih_17 (i + 1) (x ||| i * 2 ^ (3 * i)) H locs (by omega) hr hP hD hS ls (lv_sub hl [1, 0] rfl)
  exact loop_17 nn 0 0 H locs (by omega) rfl hP hD hS ls (lv_sub hl [1, 0] rfl)
theorem eX0_drop : yX0_drop.cls = RX0 ∧ yX0_drop.cls ≠ "java/lang/invoke/MethodHandle" ∧ yX0_drop.cls ≠ "java/lang/invoke/VarHandle" ∧ (parseMethodDescriptor yX0_drop.desc).map (fun d => d.parameters.length) = some 0 := by decide +kernel
set_option maxHeartbeats 4000000 in
set_option maxRecDepth 100000 in
theorem kX0_drop (hc : ct ≤ 12) : mI (S := Nat) l yX0_drop wsX0_drop ({ frames := 0, cells := 0, slots := 0, locals := 0 } : Room) [.ref h] D (gT cI cG cZ) (gW cI cG h a g f ra (nI (n)) (nI (id)) (nI (ct)) (nI (fc)) (ad) (fl) (R)) (fun u => gW cI cG h a g f ra (nI n) (nI id) (nI u) (nI fc) ad fl R) (fun r u => (ct = 0 ∧ r = 0 ∧ u = 0) ∨ (0 < ct ∧ r = 1 ∧ u = ct - 1)) := by
  refine mI_ofW (cc := cX0_drop) (maxL := 1) (ret := (some .boolean)) (by decide) rfl (Or.inr ⟨rfl, fun v u q => q.elim (fun q => Or.inl q.2.1) (fun q => Or.inr q.2.1)⟩) (Nat.le_of_ble_eq_true rfl) ?_
  intro p e s m args below meth c QQ hx hb hml hown hts hK hP hD hS hret ls hl
  have hl : lv_has ls 1 [(0, .ref h)] := hl
  have hown : s.vm.findClass RX0 = some m.cls := hown
  have hin0 : ∀ w ∈ wsX00, w ∈ wsX0_drop := fun w h => List.mem_cons_of_mem _ (List.mem_append_right _ h)
  have hl_count : (Cond.fieldLink RX0 33 "PermGroup" "count" "I").before args s = true := hts _ (by decide +kernel)
  generalize inW (gW cI cG h a g f ra (nI (n)) (nI (id)) (nI (ct)) (nI (fc)) (ad) (fl) (R)) = A at hD hS hret
  suffices start : ∀ (H : Heap) (locs : List Loc), va_P D vwCl (gW cI cG h a g f ra (nI (n)) (nI (id)) (nI (ct)) (nI (fc)) (ad) (fl) (R)) H → va_D A (gW cI cG h a g f ra (nI (n)) (nI (id)) (nI (ct)) (nI (fc)) (ad) (fl) (R)) → va_S A s.heap H locs → W p l e ({ frames := 0, cells := 0, slots := 0, locals := 0 } : Room) s m args below meth c H locs 0 0 QQ (F0 m 0 ls []) from start s.heap [] hP hD hS
  clear hP hD hS
  intro H locs hP hD hS
  refine lv_aload_n hx hb dX0_drop_0 rfl (lv_at hl 0 rfl) ?_
  refine va_get (D := D) (ci := 0) (v := .int (nI (ct))) (C := RX0) (T := TX0) (N := 7) hx hb hts hin0 hown hK hP 0 rfl rfl 2 (by decide) hl_count (fun _ h9 => h9) rfl dX0_drop_1 ?_
  refine lv_if_ne (tgt := 9) hx hb dX0_drop_4 (by decide) (fun c_4 => ?_) (fun c_4 => ?_)
  ·
    have c_4 : ¬ _ := fun h9 => c_4 ((nb_eq0 (by omega)).mpr h9)
    refine lv_aload_n hx hb dX0_drop_9 rfl (lv_at hl 0 rfl) ?_
    refine lv_dup hx hb dX0_drop_10 rfl ?_
    refine va_get (D := D) (ci := 0) (v := .int (nI (ct))) (C := RX0) (T := TX0) (N := 7) hx hb hts hin0 hown hK hP 0 rfl rfl 2 (by decide) hl_count (fun _ h9 => h9) rfl dX0_drop_11 ?_
    refine lv_iconst (v := nI (1)) hx hb dX0_drop_14 (by decide) ?_
    refine lv_isub hx hb dX0_drop_15 ?_
    refine pu_tp (pk_sub (by omega)) ?_
    refine va_put (D := D) (ci := 0) (v := .int (nI (ct - 1))) (ty := .int) (C := RX0) (T := TX0) (N := 7) hx hb hts hin0 tyX0 tyX0_ok nmX0 hown hK hP hD hS 0 rfl rfl 2 (by decide) hl_count (fun _ h9 => h9) rfl (by decide +kernel) rfl rfl (Nat.le_of_ble_eq_true rfl) dX0_drop_16 (fun H locs hP hD hS => ?_)
    have hP : va_P D vwCl (gW cI cG h a g f ra (nI (n)) (nI (id)) (nI (ct - 1)) (nI (fc)) (ad) (fl) (R)) H := hP
    have hD : va_D A (gW cI cG h a g f ra (nI (n)) (nI (id)) (nI (ct - 1)) (nI (fc)) (ad) (fl) (R)) := hD
    refine lv_iconst (v := nI (1)) hx hb dX0_drop_19 (by decide) ?_
    exact hret (ct - 1) H locs _ _ _ (Or.inr ⟨by omega, rfl, rfl⟩) hP hS dX0_drop_20
  ·
    have c_4 := (nb_eq0 (by omega)).mp c_4
    refine lv_iconst (v := nI (0)) hx hb dX0_drop_7 (by decide) ?_
    exact hret ct H locs _ _ _ (Or.inl ⟨c_4, rfl, c_4⟩) hP hS dX0_drop_8
theorem pt_ok {x : Int32} (h1 : ¬ x < nI 1) (h2 : x ≤ nI 7) : ∃ X, 1 ≤ X ∧ X ≤ 7 ∧ x = nI X := by
  obtain ⟨X, hX, rfl⟩ := nb_ixle (n := 7) (fun q => h1 (Int32.lt_trans q (by decide))) h2 (by decide)
  exact ⟨X, by have := mt (nI_ltI (by omega) (by decide)).mpr h1; omega, hX, rfl⟩
def ptV (x : Int32) : Prop := ¬ x < nI 1 ∧ x ≤ nI 7
theorem eX0_points : yX0_points.cls = RX0 ∧ yX0_points.cls ≠ "java/lang/invoke/MethodHandle" ∧ yX0_points.cls ≠ "java/lang/invoke/VarHandle" ∧ (parseMethodDescriptor yX0_points.desc).map (fun d => d.parameters.length) = some 1 := by decide +kernel
set_option maxHeartbeats 4000000 in
set_option maxRecDepth 100000 in
theorem kX0_points {x : Int32} : mI (S := (Nat × Nat × Nat × (Nat → Nat → Int32))) l yX0_points wsX0_points ({ frames := 2, cells := 0, slots := 0, locals := 44 } : Room) [.ref h, .int (x)] D (gT cI cG cZ) (gW cI cG h a g f ra (nI (n)) (nI (id)) (nI (ct)) (nI (fc)) (ad) (fl) (R)) (fun u => gW cI cG h a g f ra (nI u.1) (nI u.2.1) (nI u.2.2.1) (nI fc) ad fl u.2.2.2) (fun r u => (ptV x ∧ r = 1 ∧ x = nI u.1 ∧ 1 ≤ u.1 ∧ u.1 ≤ 7 ∧ u.2.1 = idn u.1 ∧ u.2.2.1 = 0 ∧ ∀ j, j < 56 → u.2.2.2 0 j = bgR u.1 j) ∨ (¬ ptV x ∧ r = 0 ∧ u = (n, id, ct, R))) := by
  refine mI_ofW (cc := cX0_points) (maxL := 2) (ret := (some .boolean)) (by decide) rfl (Or.inr ⟨rfl, fun v u q => q.elim (fun q => Or.inr q.2.1) (fun q => Or.inl q.2.1)⟩) (Nat.le_of_ble_eq_true rfl) ?_
  intro p e s m args below meth c QQ hx hb hml hown hts hK hP hD hS hret ls hl
  have hl : lv_has ls 2 [(0, .ref h), (1, .int (x))] := hl
  have hown : s.vm.findClass RX0 = some m.cls := hown
  have hin0 : ∀ w ∈ wsX00, w ∈ wsX0_points := fun w h => List.mem_cons_of_mem _ (List.mem_append_right _ h)
  generalize inW (gW cI cG h a g f ra (nI (n)) (nI (id)) (nI (ct)) (nI (fc)) (ad) (fl) (R)) = A at hD hS hret
  suffices start : ∀ (H : Heap) (locs : List Loc), va_P D vwCl (gW cI cG h a g f ra (nI (n)) (nI (id)) (nI (ct)) (nI (fc)) (ad) (fl) (R)) H → va_D A (gW cI cG h a g f ra (nI (n)) (nI (id)) (nI (ct)) (nI (fc)) (ad) (fl) (R)) → va_S A s.heap H locs → W p l e ({ frames := 2, cells := 0, slots := 0, locals := 44 } : Room) s m args below meth c H locs 0 0 QQ (F0 m 0 ls []) from start s.heap [] hP hD hS
  clear hP hD hS
  intro H locs hP hD hS
  refine lv_iload_n hx hb dX0_points_0 rfl (lv_at hl 1 rfl) ?_
  refine lv_iconst (v := nI (1)) hx hb dX0_points_1 (by decide) ?_
  refine lv_icmp_lt (tgt := 11) hx hb dX0_points_2 (by decide) (fun c_2 => ?_) (fun c_2 => ?_)
  ·
    refine lv_iconst (v := nI (0)) hx hb dX0_points_11 (by decide) ?_
    exact hret (n, id, ct, R) H locs _ _ _ (Or.inr ⟨fun q => by first | exact q.1 c_2 | exact c_8 q.2, rfl, rfl⟩) hP hS dX0_points_12
  ·
    refine lv_iload_n hx hb dX0_points_5 rfl (lv_at hl 1 rfl) ?_
    refine lv_bipush (v := nI (7)) hx hb dX0_points_6 (by decide) ?_
    refine lv_icmp_le (tgt := 13) hx hb dX0_points_8 (by decide) (fun c_8 => ?_) (fun c_8 => ?_)
    ·
      obtain ⟨X, hX1, hX7, rfl⟩ := pt_ok c_2 c_8
      refine lv_aload_n hx hb dX0_points_13 rfl (lv_at hl 0 rfl) ?_
      refine lv_iload_n hx hb dX0_points_14 rfl (lv_at hl 1 rfl) ?_
      refine mv_V (As := [.int (nI (X))]) (rest := []) (b := h) ⟨hx, hb, hml, hown, hts⟩ (kX0_begin hX7) (cwV 1 hts gX0_points_X0_begin rfl rfl rfl eX0_begin ⟨by decide, by decide⟩) (va_recv hK hP (ci := 0) (q0 := 0) rfl rfl) hK hP hD hS rfl hl.1 rfl (Nat.le_of_ble_eq_true rfl) dX0_points_15 ⟨Nat.zero_le _, Nat.zero_le _⟩ (fun u H locs hw hP hS hk => ?_)
      have hP : va_P D vwCl (gW cI cG h a g f ra (nI (X)) (nI (idn X)) (nI (0)) (nI (fc)) (ad) (fl) (u)) H := hP
      have hD : va_D A (gW cI cG h a g f ra (nI (X)) (nI (idn X)) (nI (0)) (nI (fc)) (ad) (fl) (u)) := gW_addr hD
      refine lv_iconst (v := nI (1)) hx hb dX0_points_18 (by decide) ?_
      exact hret (X, idn X, 0, u) H locs _ _ _ (Or.inl ⟨⟨c_2, c_8⟩, rfl, rfl, hX1, hX7, rfl, rfl, hw⟩) hP hS dX0_points_19
    ·
      refine lv_iconst (v := nI (0)) hx hb dX0_points_11 (by decide) ?_
      exact hret (n, id, ct, R) H locs _ _ _ (Or.inr ⟨fun q => by first | exact q.1 c_2 | exact c_8 q.2, rfl, rfl⟩) hP hS dX0_points_12
end CXE
end
section
section GCP
variable {p : Program} {l : Launch} {e : Env} {rm : Room} {s : State} {m : MethodId} {args : Array Value} {below : List Frame} {meth : Method} {c : Code} {H H0 : Heap} {locs : List Loc} {cells slots : Nat} {Q : State → Prop} {cc : ByteArray} {pc : Nat} {ls : Array Slot} {rest : List Value} {A : Nat → Prop}
variable {D : va_G} {cI cG cZ : ClassId} {h a g f : Nat} {ra : Nat → Nat} {n id ct fc : Int32} {ad fl : Nat → Int32} {R : Nat → Nat → Int32}
/-- row i copied over row j -/
theorem ga_copy (hx : p.tables.exec = Jvm.exec) (hb : c.code = cc) (hml : c.maxLocals = ls.size) {own : String} {index : Nat} (hown : s.vm.findClass own = some m.cls) (hlink : (Cond.methodLink own index arraycopyName).before args s = true) (hnat : (Cond.native arraycopyName).before args s = true) (hstat : (Cond.static arraycopyName).before args s = true) (hini : (Cond.initialized "java/lang/System").before args s = true)
    (hK : va_K D vwCl (gT cI cG cZ) s) (hP : va_P D vwCl (gW cI cG h a g f ra n id ct fc ad fl R) H) (hD : va_D A (gW cI cG h a g f ra n id ct fc ad fl R)) (hS : va_S A H0 H locs) {i j : Nat} (hi : i < 13) (hj : j < 13)
    (hframes : 1 ≤ rm.frames) (hlocals : (rest.map fun v => v.category).sum + (nativeFrameWords "java/lang/System" "arraycopy" 5 + 11) ≤ rm.locals) (hdg : decode cc pc = .ok (.invokestatic index, 3))
    (kk : ∀ (H1 : Heap) (locs1 : List Loc), va_P D vwCl (gW cI cG h a g f ra n id ct fc ad fl (upR R j (va_cpy (R i) (R j) 0 0 56))) H1 → va_D A (gW cI cG h a g f ra n id ct fc ad fl (upR R j (va_cpy (R i) (R j) 0 0 56))) → va_S A H0 H1 locs1 → W p l e rm s m args below meth c H1 locs1 cells slots Q (F0 m (pc + 3) ls rest)) : W p l e rm s m args below meth c H locs cells slots Q (F0 m pc ls (.int (nI 56) :: .int (nI 0) :: .ref (ra j) :: .int (nI 0) :: .ref (ra i) :: rest)) := by
  refine va_copyi hx hb hml hown hlink hnat hstat hini hK hP hD hS (i + 4) (j + 4) 0 0 (gW_row hi) (gW_row hj) rfl rfl rfl (by decide) (by decide) (by decide) (by decide) (by decide) (fun _ _ => rfl) hframes hlocals hdg (fun H1 locs1 hP1 hD1 hS1 => ?_)
  rw [gW_set hj] at hP1 hD1
  exact kk H1 locs1 hP1 hD1 hS1
end GCP
end
section
section CXF
variable {l : Launch} {D : va_G} {cI cG cZ : ClassId} {h a g f : Nat} {ra : Nat → Nat} {n id ct fc : Nat} {ad fl : Nat → Int32} {R : Nat → Nat → Int32}
theorem eX0_add : yX0_add.cls = RX0 ∧ yX0_add.cls ≠ "java/lang/invoke/MethodHandle" ∧ yX0_add.cls ≠ "java/lang/invoke/VarHandle" ∧ (parseMethodDescriptor yX0_add.desc).map (fun d => d.parameters.length) = some 1 := by decide +kernel
set_option maxHeartbeats 4000000 in
set_option maxRecDepth 100000 in
theorem kX0_add (hn : n ≤ 7) (hn1 : 1 ≤ n) (hc : ct ≤ 12) {P : Nat} (hp : P < 2 ^ 32) : mI (S := ((Nat → Int32) × Nat × Nat × (Nat → Int32) × (Nat → Nat → Int32))) l yX0_add wsX0_add ({ frames := 6, cells := 0, slots := 0, locals := 141 } : Room) [.ref h, .int (nI (P))] D (gT cI cG cZ) (gW cI cG h a g f ra (nI (n)) (nI (id)) (nI (ct)) (nI (fc)) (ad) (fl) (R)) (fun u => gW cI cG h a g f ra (nI n) (nI id) (nI u.2.1) (nI u.2.2.1) u.1 u.2.2.2.1 u.2.2.2.2) (fun r u => (isP n P = false ∧ r = -1 ∧ u = (ad, ct, fc, fl, R)) ∨ (isP n P = true ∧ 12 ≤ ct ∧ r = -2 ∧ u = (ad, ct, fc, fl, R)) ∨ (isP n P = true ∧ ct < 12 ∧ r = nI ct ∧ u = (upd ad ct (nI P), ct + 1, (exS n P (va_cpy (R ct) (R (ct + 1)) 0 0 56) fl).2.2, (exS n P (va_cpy (R ct) (R (ct + 1)) 0 0 56) fl).2.1, upR R (ct + 1) (exS n P (va_cpy (R ct) (R (ct + 1)) 0 0 56) fl).1))) := by
  refine mI_ofW (cc := cX0_add) (maxL := 2) (ret := (some .int)) (by decide) rfl (Or.inl rfl) (Nat.le_of_ble_eq_true rfl) ?_
  intro p e s m args below meth c QQ hx hb hml hown hts hK hP hD hS hret ls hl
  have hl : lv_has ls 2 [(0, .ref h), (1, .int (nI (P)))] := hl
  have hown : s.vm.findClass RX0 = some m.cls := hown
  have hin0 : ∀ w ∈ wsX00, w ∈ wsX0_add := fun w h => List.mem_cons_of_mem _ (List.mem_append_right _ h)
  have hl_added : (Cond.fieldLink RX0 9 "PermGroup" "added" "[I").before args s = true := hts _ (by decide +kernel)
  have hl_chains : (Cond.fieldLink RX0 15 "PermGroup" "chains" "[[I").before args s = true := hts _ (by decide +kernel)
  have hl_count : (Cond.fieldLink RX0 33 "PermGroup" "count" "I").before args s = true := hts _ (by decide +kernel)
  generalize inW (gW cI cG h a g f ra (nI (n)) (nI (id)) (nI (ct)) (nI (fc)) (ad) (fl) (R)) = A at hD hS hret
  suffices start : ∀ (H : Heap) (locs : List Loc), va_P D vwCl (gW cI cG h a g f ra (nI (n)) (nI (id)) (nI (ct)) (nI (fc)) (ad) (fl) (R)) H → va_D A (gW cI cG h a g f ra (nI (n)) (nI (id)) (nI (ct)) (nI (fc)) (ad) (fl) (R)) → va_S A s.heap H locs → W p l e ({ frames := 6, cells := 0, slots := 0, locals := 141 } : Room) s m args below meth c H locs 0 0 QQ (F0 m 0 ls []) from start s.heap [] hP hD hS
  clear hP hD hS
  intro H locs hP hD hS
  refine lv_aload_n hx hb dX0_add_0 rfl (lv_at hl 0 rfl) ?_
  refine lv_iload_n hx hb dX0_add_1 rfl (lv_at hl 1 rfl) ?_
  refine pu_V (As := [.int (nI (P))]) (rest := []) (b := h) ⟨hx, hb, hml, hown, hts⟩ (kX0_isPermutation hP hn (P := P) hp) (cwV 1 hts gX0_add_X0_isPermutation rfl rfl rfl eX0_isPermutation ⟨by decide, by decide⟩) (va_recv hK hP (ci := 0) (q0 := 0) rfl rfl) hK rfl hl.1 rfl (Nat.le_of_ble_eq_true rfl) dX0_add_2 ⟨Nat.zero_le _, Nat.zero_le _⟩ ?_
  refine lv_if_ne (tgt := 10) hx hb dX0_add_5 (by decide) (fun c_5 => ?_) (fun c_5 => ?_)
  ·
    have c_5 := b01_t c_5
    refine lv_aload_n hx hb dX0_add_10 rfl (lv_at hl 0 rfl) ?_
    refine va_get (D := D) (ci := 0) (v := .int (nI (ct))) (C := RX0) (T := TX0) (N := 7) hx hb hts hin0 hown hK hP 0 rfl rfl 2 (by decide) hl_count (fun _ h9 => h9) rfl dX0_add_11 ?_
    refine lv_bipush (v := nI (12)) hx hb dX0_add_14 (by decide) ?_
    refine lv_icmp_lt (tgt := 22) hx hb dX0_add_16 (by decide) (fun c_16 => ?_) (fun c_16 => ?_)
    ·
      have c_16 := (nI_ltI (by omega) (by omega)).mp c_16
      refine lv_aload_n hx hb dX0_add_22 rfl (lv_at hl 0 rfl) ?_
      refine va_get (D := D) (ci := 0) (v := .ref a) (C := RX0) (T := TX0) (N := 7) hx hb hts hin0 hown hK hP 0 rfl rfl 3 (by decide) hl_added (fun _ h9 => h9) rfl dX0_add_23 ?_
      refine lv_aload_n hx hb dX0_add_26 rfl (lv_at hl 0 rfl) ?_
      refine va_get (D := D) (ci := 0) (v := .int (nI (ct))) (C := RX0) (T := TX0) (N := 7) hx hb hts hin0 hown hK hP 0 rfl rfl 2 (by decide) hl_count (fun _ h9 => h9) rfl dX0_add_27 ?_
      refine lv_iload_n hx hb dX0_add_30 rfl (lv_at hl 1 rfl) ?_
      refine ua_iast hx hb hK hP hD hS 1 0 rfl rfl (by omega) (by decide) dX0_add_31 (fun H locs hP hD hS => ?_)
      have hP : va_P D vwCl (gW cI cG h a g f ra (nI (n)) (nI (id)) (nI (ct)) (nI (fc)) (upd (ad) (ct) (nI (P))) (fl) (R)) H := hP
      have hD : va_D A (gW cI cG h a g f ra (nI (n)) (nI (id)) (nI (ct)) (nI (fc)) (upd (ad) (ct) (nI (P))) (fl) (R)) := hD
      refine lv_aload_n hx hb dX0_add_32 rfl (lv_at hl 0 rfl) ?_
      refine va_get (D := D) (ci := 0) (v := .ref g) (C := RX0) (T := TX0) (N := 7) hx hb hts hin0 hown hK hP 0 rfl rfl 4 (by decide) hl_chains (fun _ h9 => h9) rfl dX0_add_33 ?_
      refine lv_aload_n hx hb dX0_add_36 rfl (lv_at hl 0 rfl) ?_
      refine va_get (D := D) (ci := 0) (v := .int (nI (ct))) (C := RX0) (T := TX0) (N := 7) hx hb hts hin0 hown hK hP 0 rfl rfl 2 (by decide) hl_count (fun _ h9 => h9) rfl dX0_add_37 ?_
      refine ga_row hx hb hK hP (by omega) dX0_add_40 ?_
      refine lv_iconst (v := nI (0)) hx hb dX0_add_41 (by decide) ?_
      refine lv_aload_n hx hb dX0_add_42 rfl (lv_at hl 0 rfl) ?_
      refine va_get (D := D) (ci := 0) (v := .ref g) (C := RX0) (T := TX0) (N := 7) hx hb hts hin0 hown hK hP 0 rfl rfl 4 (by decide) hl_chains (fun _ h9 => h9) rfl dX0_add_43 ?_
      refine lv_aload_n hx hb dX0_add_46 rfl (lv_at hl 0 rfl) ?_
      refine va_get (D := D) (ci := 0) (v := .int (nI (ct))) (C := RX0) (T := TX0) (N := 7) hx hb hts hin0 hown hK hP 0 rfl rfl 2 (by decide) hl_count (fun _ h9 => h9) rfl dX0_add_47 ?_
      refine lv_iconst (v := nI (1)) hx hb dX0_add_50 (by decide) ?_
      refine lv_iadd hx hb dX0_add_51 ?_
      refine pu_tp (nI_add _ _) ?_
      refine ga_row hx hb hK hP (by omega) dX0_add_52 ?_
      refine lv_iconst (v := nI (0)) hx hb dX0_add_53 (by decide) ?_
      refine lv_bipush (v := nI (56)) hx hb dX0_add_54 (by decide) ?_
      have hcl9 : (Cond.methodLink RX0 36 arraycopyName).before args s = true := hts _ (by decide +kernel)
      have hcn9 : (Cond.native arraycopyName).before args s = true := hts _ (by decide +kernel)
      have hcs9 : (Cond.static arraycopyName).before args s = true := hts _ (by decide +kernel)
      have hci9 : (Cond.initialized "java/lang/System").before args s = true := hts _ (by decide +kernel)
      refine ga_copy hx hb (by rw [hml]; exact hl.1.symm) hown hcl9 hcn9 hcs9 hci9 hK hP hD hS (i := ct) (j := ct + 1) (by omega) (by omega) (by decide) (by decide) dX0_add_56 (fun H locs hP hD hS => ?_)
      have hP : va_P D vwCl (gW cI cG h a g f ra (nI (n)) (nI (id)) (nI (ct)) (nI (fc)) (upd (ad) (ct) (nI (P))) (fl) (upR R (ct + 1) (va_cpy (R ct) (R (ct + 1)) 0 0 56))) H := hP
      have hD : va_D A (gW cI cG h a g f ra (nI (n)) (nI (id)) (nI (ct)) (nI (fc)) (upd (ad) (ct) (nI (P))) (fl) (upR R (ct + 1) (va_cpy (R ct) (R (ct + 1)) 0 0 56))) := hD
      refine lv_aload_n hx hb dX0_add_59 rfl (lv_at hl 0 rfl) ?_
      refine lv_dup hx hb dX0_add_60 rfl ?_
      refine va_get (D := D) (ci := 0) (v := .int (nI (ct))) (C := RX0) (T := TX0) (N := 7) hx hb hts hin0 hown hK hP 0 rfl rfl 2 (by decide) hl_count (fun _ h9 => h9) rfl dX0_add_61 ?_
      refine lv_iconst (v := nI (1)) hx hb dX0_add_64 (by decide) ?_
      refine lv_iadd hx hb dX0_add_65 ?_
      refine pu_tp (nI_add _ _) ?_
      refine va_put (D := D) (ci := 0) (v := .int (nI (ct + 1))) (ty := .int) (C := RX0) (T := TX0) (N := 7) hx hb hts hin0 tyX0 tyX0_ok nmX0 hown hK hP hD hS 0 rfl rfl 2 (by decide) hl_count (fun _ h9 => h9) rfl (by decide +kernel) rfl rfl (Nat.le_of_ble_eq_true rfl) dX0_add_66 (fun H locs hP hD hS => ?_)
      have hP : va_P D vwCl (gW cI cG h a g f ra (nI (n)) (nI (id)) (nI (ct + 1)) (nI (fc)) (upd (ad) (ct) (nI (P))) (fl) (upR R (ct + 1) (va_cpy (R ct) (R (ct + 1)) 0 0 56))) H := hP
      have hD : va_D A (gW cI cG h a g f ra (nI (n)) (nI (id)) (nI (ct + 1)) (nI (fc)) (upd (ad) (ct) (nI (P))) (fl) (upR R (ct + 1) (va_cpy (R ct) (R (ct + 1)) 0 0 56))) := hD
      refine lv_aload_n hx hb dX0_add_69 rfl (lv_at hl 0 rfl) ?_
      refine lv_iload_n hx hb dX0_add_70 rfl (lv_at hl 1 rfl) ?_
      refine mv_V (As := [.int (nI (P))]) (rest := []) (b := h) ⟨hx, hb, hml, hown, hts⟩ (kX0_extendBy hn hn1 (by omega) hp) (cwV 1 hts gX0_add_X0_extendBy rfl rfl rfl eX0_extendBy ⟨by decide, by decide⟩) (va_recv hK hP (ci := 0) (q0 := 0) rfl rfl) hK hP hD hS rfl hl.1 rfl (Nat.le_of_ble_eq_true rfl) dX0_add_71 ⟨Nat.zero_le _, Nat.zero_le _⟩ (fun u H locs hw hP hS hk => ?_)
      rw [upR_u] at hP
      rw [upR_s] at hw
      have hP : va_P D vwCl (gW cI cG h a g f ra (nI (n)) (nI (id)) (nI (ct + 1)) (nI (u.2.2)) (upd (ad) (ct) (nI (P))) (u.2.1) (upR R (ct + 1) u.1)) H := hP
      have hD : va_D A (gW cI cG h a g f ra (nI (n)) (nI (id)) (nI (ct + 1)) (nI (u.2.2)) (upd (ad) (ct) (nI (P))) (u.2.1) (upR R (ct + 1) u.1)) := gW_addr hD
      refine lv_aload_n hx hb dX0_add_74 rfl (lv_at hl 0 rfl) ?_
      refine va_get (D := D) (ci := 0) (v := .int (nI (ct + 1))) (C := RX0) (T := TX0) (N := 7) hx hb hts hin0 hown hK hP 0 rfl rfl 2 (by decide) hl_count (fun _ h9 => h9) rfl dX0_add_75 ?_
      refine lv_iconst (v := nI (1)) hx hb dX0_add_78 (by decide) ?_
      refine lv_isub hx hb dX0_add_79 ?_
      refine pu_tp (pk_sub (by omega)) ?_
      exact hret (upd ad ct (nI P), ct + 1, u.2.2, u.2.1, upR R (ct + 1) u.1) H locs _ _ _ (Or.inr (Or.inr ⟨c_5, by omega, by rw [Nat.add_sub_cancel], by rw [hw]⟩)) hP hS dX0_add_80
    ·
      have c_16 : ¬ _ := fun h9 => c_16 ((nI_ltI (by omega) (by omega)).mpr h9)
      refine lv_bipush (v := -2) hx hb dX0_add_19 (by decide) ?_
      exact hret (ad, ct, fc, fl, R) H locs _ _ _ (Or.inr (Or.inl ⟨c_5, by omega, rfl, rfl⟩)) hP hS dX0_add_21
  ·
    have c_5 := b01_f c_5
    refine lv_iconst (v := -1) hx hb dX0_add_8 (by decide) ?_
    exact hret (ad, ct, fc, fl, R) H locs _ _ _ (Or.inl ⟨c_5, rfl, rfl⟩) hP hS dX0_add_9
end CXF
end
section
section CXG
variable {l : Launch} {D : va_G} {cI cG cZ : ClassId} {h fa ge inn wa : Nat} {ct n : Nat} {th : Int32} {gn iv wv : Nat → Int32}
theorem eX1_drop : yX1_drop.cls = RX1 ∧ yX1_drop.cls ≠ "java/lang/invoke/MethodHandle" ∧ yX1_drop.cls ≠ "java/lang/invoke/VarHandle" ∧ (parseMethodDescriptor yX1_drop.desc).map (fun d => d.parameters.length) = some 0 := by decide +kernel
set_option maxHeartbeats 4000000 in
set_option maxRecDepth 100000 in
theorem kX1_drop (hc : ct ≤ 12) : mI (S := Nat) l yX1_drop wsX1_drop ({ frames := 0, cells := 0, slots := 0, locals := 0 } : Room) [.ref h] D (gT cI cG cZ) (mW cI cZ h fa ge inn wa (nI (ct)) (nI (n)) (th) (gn) (iv) (wv)) (fun u => mW cI cZ h fa ge inn wa (nI u) (nI n) th gn iv wv) (fun r u => (ct = 0 ∧ r = 0 ∧ u = 0) ∨ (0 < ct ∧ r = 1 ∧ u = ct - 1)) := by
  refine mI_ofW (cc := cX1_drop) (maxL := 1) (ret := (some .boolean)) (by decide) rfl (Or.inr ⟨rfl, fun v u q => q.elim (fun q => Or.inl q.2.1) (fun q => Or.inr q.2.1)⟩) (Nat.le_of_ble_eq_true rfl) ?_
  intro p e s m args below meth c QQ hx hb hml hown hts hK hP hD hS hret ls hl
  have hl : lv_has ls 1 [(0, .ref h)] := hl
  have hown : s.vm.findClass RX1 = some m.cls := hown
  have hin0 : ∀ w ∈ wsX10, w ∈ wsX1_drop := fun w h => List.mem_cons_of_mem _ (List.mem_append_right _ h)
  have hl_count : (Cond.fieldLink RX1 43 "PermGroupModel" "count" "I").before args s = true := hts _ (by decide +kernel)
  generalize inW (mW cI cZ h fa ge inn wa (nI (ct)) (nI (n)) (th) (gn) (iv) (wv)) = A at hD hS hret
  suffices start : ∀ (H : Heap) (locs : List Loc), va_P D vwCl (mW cI cZ h fa ge inn wa (nI (ct)) (nI (n)) (th) (gn) (iv) (wv)) H → va_D A (mW cI cZ h fa ge inn wa (nI (ct)) (nI (n)) (th) (gn) (iv) (wv)) → va_S A s.heap H locs → W p l e ({ frames := 0, cells := 0, slots := 0, locals := 0 } : Room) s m args below meth c H locs 0 0 QQ (F0 m 0 ls []) from start s.heap [] hP hD hS
  clear hP hD hS
  intro H locs hP hD hS
  refine lv_aload_n hx hb dX1_drop_0 rfl (lv_at hl 0 rfl) ?_
  refine va_get (D := D) (ci := 1) (v := .int (nI (ct))) (C := RX1) (T := TX1) (N := 7) hx hb hts hin0 hown hK hP 0 rfl rfl 2 (by decide) hl_count (fun _ h9 => h9) rfl dX1_drop_1 ?_
  refine lv_if_ne (tgt := 9) hx hb dX1_drop_4 (by decide) (fun c_4 => ?_) (fun c_4 => ?_)
  ·
    have c_4 : ¬ _ := fun h9 => c_4 ((nb_eq0 (by omega)).mpr h9)
    refine lv_aload_n hx hb dX1_drop_9 rfl (lv_at hl 0 rfl) ?_
    refine lv_dup hx hb dX1_drop_10 rfl ?_
    refine va_get (D := D) (ci := 1) (v := .int (nI (ct))) (C := RX1) (T := TX1) (N := 7) hx hb hts hin0 hown hK hP 0 rfl rfl 2 (by decide) hl_count (fun _ h9 => h9) rfl dX1_drop_11 ?_
    refine lv_iconst (v := nI (1)) hx hb dX1_drop_14 (by decide) ?_
    refine lv_isub hx hb dX1_drop_15 ?_
    refine pu_tp (pk_sub (by omega)) ?_
    refine va_put (D := D) (ci := 1) (v := .int (nI (ct - 1))) (ty := .int) (C := RX1) (T := TX1) (N := 7) hx hb hts hin0 tyX1 tyX1_ok nmX1 hown hK hP hD hS 0 rfl rfl 2 (by decide) hl_count (fun _ h9 => h9) rfl (by decide +kernel) rfl rfl (Nat.le_of_ble_eq_true rfl) dX1_drop_16 (fun H locs hP hD hS => ?_)
    have hP : va_P D vwCl (mW cI cZ h fa ge inn wa (nI (ct - 1)) (nI (n)) (th) (gn) (iv) (wv)) H := hP
    have hD : va_D A (mW cI cZ h fa ge inn wa (nI (ct - 1)) (nI (n)) (th) (gn) (iv) (wv)) := hD
    refine lv_iconst (v := nI (1)) hx hb dX1_drop_19 (by decide) ?_
    exact hret (ct - 1) H locs _ _ _ (Or.inr ⟨by omega, rfl, rfl⟩) hP hS dX1_drop_20
  ·
    have c_4 := (nb_eq0 (by omega)).mp c_4
    refine lv_iconst (v := nI (0)) hx hb dX1_drop_7 (by decide) ?_
    exact hret ct H locs _ _ _ (Or.inl ⟨c_4, rfl, c_4⟩) hP hS dX1_drop_8
theorem eX1_points : yX1_points.cls = RX1 ∧ yX1_points.cls ≠ "java/lang/invoke/MethodHandle" ∧ yX1_points.cls ≠ "java/lang/invoke/VarHandle" ∧ (parseMethodDescriptor yX1_points.desc).map (fun d => d.parameters.length) = some 1 := by decide +kernel
set_option maxHeartbeats 4000000 in
set_option maxRecDepth 100000 in
theorem kX1_points {x : Int32} : mI (S := (Nat × Nat)) l yX1_points wsX1_points ({ frames := 0, cells := 0, slots := 0, locals := 0 } : Room) [.ref h, .int (x)] D (gT cI cG cZ) (mW cI cZ h fa ge inn wa (nI (ct)) (nI (n)) (th) (gn) (iv) (wv)) (fun u => mW cI cZ h fa ge inn wa (nI u.2) (nI u.1) th gn iv wv) (fun r u => (ptV x ∧ r = 1 ∧ x = nI u.1 ∧ 1 ≤ u.1 ∧ u.1 ≤ 7 ∧ u.2 = 0) ∨ (¬ ptV x ∧ r = 0 ∧ u = (n, ct))) := by
  refine mI_ofW (cc := cX1_points) (maxL := 2) (ret := (some .boolean)) (by decide) rfl (Or.inr ⟨rfl, fun v u q => q.elim (fun q => Or.inr q.2.1) (fun q => Or.inl q.2.1)⟩) (Nat.le_of_ble_eq_true rfl) ?_
  intro p e s m args below meth c QQ hx hb hml hown hts hK hP hD hS hret ls hl
  have hl : lv_has ls 2 [(0, .ref h), (1, .int (x))] := hl
  have hown : s.vm.findClass RX1 = some m.cls := hown
  have hin0 : ∀ w ∈ wsX10, w ∈ wsX1_points := fun w h => List.mem_cons_of_mem _ (List.mem_append_right _ h)
  have hl_count : (Cond.fieldLink RX1 43 "PermGroupModel" "count" "I").before args s = true := hts _ (by decide +kernel)
  have hl_n : (Cond.fieldLink RX1 23 "PermGroupModel" "n" "I").before args s = true := hts _ (by decide +kernel)
  generalize inW (mW cI cZ h fa ge inn wa (nI (ct)) (nI (n)) (th) (gn) (iv) (wv)) = A at hD hS hret
  suffices start : ∀ (H : Heap) (locs : List Loc), va_P D vwCl (mW cI cZ h fa ge inn wa (nI (ct)) (nI (n)) (th) (gn) (iv) (wv)) H → va_D A (mW cI cZ h fa ge inn wa (nI (ct)) (nI (n)) (th) (gn) (iv) (wv)) → va_S A s.heap H locs → W p l e ({ frames := 0, cells := 0, slots := 0, locals := 0 } : Room) s m args below meth c H locs 0 0 QQ (F0 m 0 ls []) from start s.heap [] hP hD hS
  clear hP hD hS
  intro H locs hP hD hS
  refine lv_iload_n hx hb dX1_points_0 rfl (lv_at hl 1 rfl) ?_
  refine lv_iconst (v := nI (1)) hx hb dX1_points_1 (by decide) ?_
  refine lv_icmp_lt (tgt := 11) hx hb dX1_points_2 (by decide) (fun c_2 => ?_) (fun c_2 => ?_)
  ·
    refine lv_iconst (v := nI (0)) hx hb dX1_points_11 (by decide) ?_
    exact hret (n, ct) H locs _ _ _ (Or.inr ⟨fun q => by first | exact q.1 c_2 | exact c_8 q.2, rfl, rfl⟩) hP hS dX1_points_12
  ·
    refine lv_iload_n hx hb dX1_points_5 rfl (lv_at hl 1 rfl) ?_
    refine lv_bipush (v := nI (7)) hx hb dX1_points_6 (by decide) ?_
    refine lv_icmp_le (tgt := 13) hx hb dX1_points_8 (by decide) (fun c_8 => ?_) (fun c_8 => ?_)
    ·
      obtain ⟨X, hX1, hX7, rfl⟩ := pt_ok c_2 c_8
      refine lv_aload_n hx hb dX1_points_13 rfl (lv_at hl 0 rfl) ?_
      refine lv_iload_n hx hb dX1_points_14 rfl (lv_at hl 1 rfl) ?_
      refine va_put (D := D) (ci := 1) (v := .int (nI (X))) (ty := .int) (C := RX1) (T := TX1) (N := 7) hx hb hts hin0 tyX1 tyX1_ok nmX1 hown hK hP hD hS 0 rfl rfl 3 (by decide) hl_n (fun _ h9 => h9) rfl (by decide +kernel) rfl rfl (Nat.le_of_ble_eq_true rfl) dX1_points_15 (fun H locs hP hD hS => ?_)
      have hP : va_P D vwCl (mW cI cZ h fa ge inn wa (nI (ct)) (nI (X)) (th) (gn) (iv) (wv)) H := hP
      have hD : va_D A (mW cI cZ h fa ge inn wa (nI (ct)) (nI (X)) (th) (gn) (iv) (wv)) := hD
      refine lv_aload_n hx hb dX1_points_18 rfl (lv_at hl 0 rfl) ?_
      refine lv_iconst (v := nI (0)) hx hb dX1_points_19 (by decide) ?_
      refine va_put (D := D) (ci := 1) (v := .int (nI (0))) (ty := .int) (C := RX1) (T := TX1) (N := 7) hx hb hts hin0 tyX1 tyX1_ok nmX1 hown hK hP hD hS 0 rfl rfl 2 (by decide) hl_count (fun _ h9 => h9) rfl (by decide +kernel) rfl rfl (Nat.le_of_ble_eq_true rfl) dX1_points_20 (fun H locs hP hD hS => ?_)
      have hP : va_P D vwCl (mW cI cZ h fa ge inn wa (nI (0)) (nI (X)) (th) (gn) (iv) (wv)) H := hP
      have hD : va_D A (mW cI cZ h fa ge inn wa (nI (0)) (nI (X)) (th) (gn) (iv) (wv)) := hD
      refine lv_iconst (v := nI (1)) hx hb dX1_points_23 (by decide) ?_
      exact hret (X, 0) H locs _ _ _ (Or.inl ⟨⟨c_2, c_8⟩, rfl, rfl, hX1, hX7, rfl⟩) hP hS dX1_points_24
    ·
      refine lv_iconst (v := nI (0)) hx hb dX1_points_11 (by decide) ?_
      exact hret (n, ct) H locs _ _ _ (Or.inr ⟨fun q => by first | exact q.1 c_2 | exact c_8 q.2, rfl, rfl⟩) hP hS dX1_points_12
theorem eX1_add : yX1_add.cls = RX1 ∧ yX1_add.cls ≠ "java/lang/invoke/MethodHandle" ∧ yX1_add.cls ≠ "java/lang/invoke/VarHandle" ∧ (parseMethodDescriptor yX1_add.desc).map (fun d => d.parameters.length) = some 1 := by decide +kernel
set_option maxHeartbeats 4000000 in
set_option maxRecDepth 100000 in
theorem kX1_add (hn : n ≤ 7) (hc : ct ≤ 12) {P : Nat} (hp : P < 2 ^ 32) : mI (S := ((Nat → Int32) × Nat)) l yX1_add wsX1_add ({ frames := 2, cells := 0, slots := 0, locals := 44 } : Room) [.ref h, .int (nI (P))] D (gT cI cG cZ) (mW cI cZ h fa ge inn wa (nI (ct)) (nI (n)) (th) (gn) (iv) (wv)) (fun u => mW cI cZ h fa ge inn wa (nI u.2) (nI n) th u.1 iv wv) (fun r u => (isP n P = false ∧ r = -1 ∧ u = (gn, ct)) ∨ (isP n P = true ∧ 12 ≤ ct ∧ r = -2 ∧ u = (gn, ct)) ∨ (isP n P = true ∧ ct < 12 ∧ r = nI ct ∧ u = (upd gn ct (nI P), ct + 1))) := by
  refine mI_ofW (cc := cX1_add) (maxL := 2) (ret := (some .int)) (by decide) rfl (Or.inl rfl) (Nat.le_of_ble_eq_true rfl) ?_
  intro p e s m args below meth c QQ hx hb hml hown hts hK hP hD hS hret ls hl
  have hl : lv_has ls 2 [(0, .ref h), (1, .int (nI (P)))] := hl
  have hown : s.vm.findClass RX1 = some m.cls := hown
  have hin0 : ∀ w ∈ wsX10, w ∈ wsX1_add := fun w h => List.mem_cons_of_mem _ (List.mem_append_right _ h)
  have hl_count : (Cond.fieldLink RX1 43 "PermGroupModel" "count" "I").before args s = true := hts _ (by decide +kernel)
  have hl_gens : (Cond.fieldLink RX1 13 "PermGroupModel" "gens" "[I").before args s = true := hts _ (by decide +kernel)
  generalize inW (mW cI cZ h fa ge inn wa (nI (ct)) (nI (n)) (th) (gn) (iv) (wv)) = A at hD hS hret
  suffices start : ∀ (H : Heap) (locs : List Loc), va_P D vwCl (mW cI cZ h fa ge inn wa (nI (ct)) (nI (n)) (th) (gn) (iv) (wv)) H → va_D A (mW cI cZ h fa ge inn wa (nI (ct)) (nI (n)) (th) (gn) (iv) (wv)) → va_S A s.heap H locs → W p l e ({ frames := 2, cells := 0, slots := 0, locals := 44 } : Room) s m args below meth c H locs 0 0 QQ (F0 m 0 ls []) from start s.heap [] hP hD hS
  clear hP hD hS
  intro H locs hP hD hS
  refine lv_aload_n hx hb dX1_add_0 rfl (lv_at hl 0 rfl) ?_
  refine lv_iload_n hx hb dX1_add_1 rfl (lv_at hl 1 rfl) ?_
  refine pu_V (As := [.int (nI (P))]) (rest := []) (b := h) ⟨hx, hb, hml, hown, hts⟩ (kX1_isPermutation hP hn (P := P) hp) (cwV 1 hts gX1_add_X1_isPermutation rfl rfl rfl eX1_isPermutation ⟨by decide, by decide⟩) (va_recv hK hP (ci := 1) (q0 := 0) rfl rfl) hK rfl hl.1 rfl (Nat.le_of_ble_eq_true rfl) dX1_add_2 ⟨Nat.zero_le _, Nat.zero_le _⟩ ?_
  refine lv_if_ne (tgt := 10) hx hb dX1_add_5 (by decide) (fun c_5 => ?_) (fun c_5 => ?_)
  ·
    have c_5 := b01_t c_5
    refine lv_aload_n hx hb dX1_add_10 rfl (lv_at hl 0 rfl) ?_
    refine va_get (D := D) (ci := 1) (v := .int (nI (ct))) (C := RX1) (T := TX1) (N := 7) hx hb hts hin0 hown hK hP 0 rfl rfl 2 (by decide) hl_count (fun _ h9 => h9) rfl dX1_add_11 ?_
    refine lv_bipush (v := nI (12)) hx hb dX1_add_14 (by decide) ?_
    refine lv_icmp_ne (tgt := 22) hx hb dX1_add_16 (by decide) (fun c_16 => ?_) (fun c_16 => ?_)
    ·
      have c_16 : ¬ _ := fun h9 => c_16 ((nb_eqI (by omega) (by omega)).mpr h9)
      refine lv_aload_n hx hb dX1_add_22 rfl (lv_at hl 0 rfl) ?_
      refine va_get (D := D) (ci := 1) (v := .ref ge) (C := RX1) (T := TX1) (N := 7) hx hb hts hin0 hown hK hP 0 rfl rfl 1 (by decide) hl_gens (fun _ h9 => h9) rfl dX1_add_23 ?_
      refine lv_aload_n hx hb dX1_add_26 rfl (lv_at hl 0 rfl) ?_
      refine va_get (D := D) (ci := 1) (v := .int (nI (ct))) (C := RX1) (T := TX1) (N := 7) hx hb hts hin0 hown hK hP 0 rfl rfl 2 (by decide) hl_count (fun _ h9 => h9) rfl dX1_add_27 ?_
      refine lv_iload_n hx hb dX1_add_30 rfl (lv_at hl 1 rfl) ?_
      refine ua_iast hx hb hK hP hD hS 2 0 rfl rfl (by omega) (by decide) dX1_add_31 (fun H locs hP hD hS => ?_)
      have hP : va_P D vwCl (mW cI cZ h fa ge inn wa (nI (ct)) (nI (n)) (th) (upd (gn) (ct) (nI (P))) (iv) (wv)) H := hP
      have hD : va_D A (mW cI cZ h fa ge inn wa (nI (ct)) (nI (n)) (th) (upd (gn) (ct) (nI (P))) (iv) (wv)) := hD
      refine lv_aload_n hx hb dX1_add_32 rfl (lv_at hl 0 rfl) ?_
      refine lv_dup hx hb dX1_add_33 rfl ?_
      refine va_get (D := D) (ci := 1) (v := .int (nI (ct))) (C := RX1) (T := TX1) (N := 7) hx hb hts hin0 hown hK hP 0 rfl rfl 2 (by decide) hl_count (fun _ h9 => h9) rfl dX1_add_34 ?_
      refine lv_iconst (v := nI (1)) hx hb dX1_add_37 (by decide) ?_
      refine lv_iadd hx hb dX1_add_38 ?_
      refine pu_tp (nI_add _ _) ?_
      refine va_put (D := D) (ci := 1) (v := .int (nI (ct + 1))) (ty := .int) (C := RX1) (T := TX1) (N := 7) hx hb hts hin0 tyX1 tyX1_ok nmX1 hown hK hP hD hS 0 rfl rfl 2 (by decide) hl_count (fun _ h9 => h9) rfl (by decide +kernel) rfl rfl (Nat.le_of_ble_eq_true rfl) dX1_add_39 (fun H locs hP hD hS => ?_)
      have hP : va_P D vwCl (mW cI cZ h fa ge inn wa (nI (ct + 1)) (nI (n)) (th) (upd (gn) (ct) (nI (P))) (iv) (wv)) H := hP
      have hD : va_D A (mW cI cZ h fa ge inn wa (nI (ct + 1)) (nI (n)) (th) (upd (gn) (ct) (nI (P))) (iv) (wv)) := hD
      refine lv_aload_n hx hb dX1_add_42 rfl (lv_at hl 0 rfl) ?_
      refine va_get (D := D) (ci := 1) (v := .int (nI (ct + 1))) (C := RX1) (T := TX1) (N := 7) hx hb hts hin0 hown hK hP 0 rfl rfl 2 (by decide) hl_count (fun _ h9 => h9) rfl dX1_add_43 ?_
      refine lv_iconst (v := nI (1)) hx hb dX1_add_46 (by decide) ?_
      refine lv_isub hx hb dX1_add_47 ?_
      refine pu_tp (pk_sub (by omega)) ?_
      exact hret (upd gn ct (nI P), ct + 1) H locs _ _ _ (Or.inr (Or.inr ⟨c_5, by omega, by rw [Nat.add_sub_cancel], rfl⟩)) hP hS dX1_add_48
    ·
      have c_16 := (nb_eqI (by omega) (by omega)).mp c_16
      refine lv_bipush (v := -2) hx hb dX1_add_19 (by decide) ?_
      exact hret (gn, ct) H locs _ _ _ (Or.inr (Or.inl ⟨c_5, by omega, rfl, rfl⟩)) hP hS dX1_add_21
  ·
    have c_5 := b01_f c_5
    refine lv_iconst (v := -1) hx hb dX1_add_8 (by decide) ?_
    exact hret (gn, ct) H locs _ _ _ (Or.inl ⟨c_5, rfl, rfl⟩) hP hS dX1_add_9
end CXG
end
section

/-! ===== BEGIN new T[n][m]: the outer array a place, the inner ones among the pooled ===== -/
/-- f, but v at every address of l -/
def vr_up {α : Type} (f : Nat → α) (l : List Nat) (v : α) : Nat → α := fun a => if a ∈ l then v else f a
theorem vr_up_in {α : Type} {f : Nat → α} {l : List Nat} {v : α} {a : Nat} (h : a ∈ l) : vr_up f l v a = v := if_pos h
theorem vr_up_ne {α : Type} {f : Nat → α} {l : List Nat} {v : α} {a : Nat} (h : a ∉ l) : vr_up f l v a = f a := if_neg h
theorem vr_rows {L l : List Nat} {f : Nat → va_E} {e : va_E} (h : ∀ a, a ∈ l → a ∉ L) : va_pl L f ++ l.map (fun a => (a, e)) = va_pl (L ++ l) (vr_up f l e) := by
  unfold va_pl
  rw [List.map_append]
  congr 1
  · apply List.map_congr_left
    intro a ha
    rw [vr_up_ne (fun q => h a q ha)]
  · apply List.map_congr_left
    intro a ha
    rw [vr_up_in ha]
theorem vr_lay {X rows : va_W} {x : Nat × va_E} {pl : va_W} {D : va_G} {cl : List vw_C} {H : Heap} (hP : va_P D cl (((X ++ pl) ++ [x]) ++ rows) H) : va_P D cl ((X ++ [x]) ++ (pl ++ rows)) H := by
  rw [List.append_assoc (X ++ pl)] at hP
  have h := va_P.swap hP
  rw [← List.append_assoc X] at h
  have h2 := va_P.swap h
  rw [List.append_assoc (X ++ [x])] at h2
  exact h2
theorem vr_layD {X rows : va_W} {x : Nat × va_E} {pl : va_W} {A : Nat → Prop} (hD : va_D A (((X ++ pl) ++ [x]) ++ rows)) : va_D A ((X ++ [x]) ++ (pl ++ rows)) := by
  rw [List.append_assoc (X ++ pl)] at hD
  have h := va_D.swap hD
  rw [← List.append_assoc X] at h
  have h2 := va_D.swap h
  rw [List.append_assoc (X ++ [x])] at h2
  exact h2
theorem vr_outer (c : ClassId) (N h0 : Nat) : ∀ i : Nat, Jvm.Free.Multi.outerC c N h0 i = arrV c N (fun j => va_rf (if j < i then some (h0 + 1 + j) else none))
  | 0 => by
    show ({ cls := c, slots := Array.replicate N .null, vm := .none } : Cell) = _
    rw [arrV_new]
    refine congrArg (arrV c N) (funext fun j => ?_)
    simp [va_rf]
  | i + 1 => by
    show (Jvm.Free.Multi.outerC c N h0 i).setSlot i (.ref (h0 + 1 + i)) = _
    rw [vr_outer c N h0 i, arrV_store]
    refine congrArg (arrV c N) (funext fun j => ?_)
    by_cases e : j = i
    · subst e
      simp [updV, va_rf]
    · by_cases h : j < i
      · simp [updV, e, h, Nat.lt_succ_of_lt h]
      · simp [updV, e, h, show ¬ j < i + 1 by omega]
section VGM
variable {p : Program} {l : Launch} {e : Env} {R : Room} {s : State} {m : MethodId} {args : Array Value} {below : List Frame} {meth : Method} {c : Code} {H : Heap} {locs : List Loc} {cells slots : Nat} {Q : State → Prop}
variable {cc : ByteArray} {pc : Nat} {ls : Array Slot} {rest : List Value} {D : va_G} {cl : List vw_C} {A : Nat → Prop} {a : Nat} {tys : List (ClassId × FieldType)} {ws : va_W} {H0 : Heap}
theorem va_mna {X : va_W} {L : List Nat} {f : Nat → va_E} {cc : ByteArray} (hexec : p.tables.exec = Jvm.exec) (hb : c.code = cc) {own : String} {index : Nat} {ty : FieldType} {cy : ClassId} (hown : s.vm.findClass own = some m.cls) (hclink : (Cond.classLink own index ("[" ++ (FieldType.array ty).toString)).before args s = true) (hover : (Cond.arrayOver (.array ty)).before args s = true) (harr : (Cond.arrayClass ty).before args s = true) (hcy : s.vm.findClass (FieldType.array ty).toString = some cy)
    (hK : va_K D cl tys s) (hP : va_P D cl (X ++ va_pl L f) H) (hD : va_D A (X ++ va_pl L f)) (hS : va_S A H0 H locs) (hA : ∀ q, H0.size ≤ q → A q) {n k : Int32} {N' K' : Nat} {z : vp_A} (hn : ¬ n < 0) (hk : ¬ k < 0) (hN : n.toNatClampNeg = N') (hM : k.toNatClampNeg = K')
    (hb1 : N' * 4 ≤ 536870912) (hb2 : K' * componentBytes ty ≤ 536870912) (hb3 : K' ≤ 536870912) (hdf : fits ty (defaultValue ty) = true) (hdd : (defaultValue ty).isDefault = true) (hcells : cells + (1 + N') ≤ R.cells) (hslots : slots + (N' + N' * K') ≤ R.slots) (hz : ∀ c : ClassId, Jvm.Free.Multi.innerC c K' (defaultValue ty) = vp_cell c z) (hdg : decode cc pc = .ok (.multianewarray index 2, 4))
    (kk : ∀ (q : Nat) (r : Nat → Nat) (cA : ClassId) (H1 : Heap), (∀ i j : Nat, i < N' → j < N' → r i = r j → i = j) → (∀ i : Nat, i < N' → r i ∉ L) → va_K D cl (tys ++ [(cA, .array ty)]) s →
      va_P D cl ((X ++ [(q, .inl (cA, N', .inr (.inr (.inr (.inr (fun i => if i < N' then some (r i) else none))))))]) ++ va_pl (L ++ (List.range N').map r) (vr_up f ((List.range N').map r) (.inl (cy, z)))) H1 → va_D A ((X ++ [(q, .inl (cA, N', .inr (.inr (.inr (.inr (fun i => if i < N' then some (r i) else none))))))]) ++ va_pl (L ++ (List.range N').map r) (vr_up f ((List.range N').map r) (.inl (cy, z)))) → va_S A H0 H1 locs →
      W p l e R s m args below meth c H1 locs (cells + 1 + N') (slots + N' + N' * K') Q (F0 m (pc + 4) ls (.ref q :: rest))) : W p l e R s m args below meth c H locs cells slots Q (F0 m pc ls (.int k :: .int n :: rest)) := by
  subst hN
  subst hM
  intro T hT Xs
  obtain ⟨vm₁, cA, comp, -, fA, fC, hO, -, X', step⟩ := Xs.multianewarray2F hexec hown hclink hover harr (g := F0 m pc ls (.int k :: .int n :: rest)) rfl (by rw [hb]; exact hdg) rfl hn hk hb1 hb2 hb3 hdf hdd hcells hslots
  have ec : some cy = some comp := hcy.symm.trans fC
  cases ec
  generalize hF : Jvm.Free.Multi.fill (T.setVm vm₁) cA cy n.toNatClampNeg k.toNatClampNeg (defaultValue ty) n.toNatClampNeg = F at X' step
  have hTh : (T.setVm vm₁).heap = H := hT
  obtain ⟨f1, f2, -, -⟩ := Jvm.Free.Multi.fill_facts (T.setVm vm₁) cA cy n.toNatClampNeg k.toNatClampNeg (defaultValue ty) n.toNatClampNeg
  rw [hF, hTh] at f1 f2
  have hold : ∀ x : Nat, x < H.size → F.heap[x]? = H[x]? := fun x hx => by
    have := Jvm.Free.Multi.fill_old (T.setVm vm₁) cA cy n.toNatClampNeg k.toNatClampNeg (defaultValue ty) (a := x) (by rw [hTh]; exact hx) n.toNatClampNeg
    rw [hF, hTh] at this
    exact this
  have hrow : ∀ j : Nat, j < n.toNatClampNeg → F.heap[H.size + 1 + j]? = some (vp_cell cy z) := fun j hj => by
    have := Jvm.Free.Multi.fill_inner (T.setVm vm₁) cA cy n.toNatClampNeg k.toNatClampNeg (defaultValue ty) n.toNatClampNeg j hj
    rw [hF, hTh, hz] at this
    exact this
  have hout : Jvm.Free.Multi.outerC cA n.toNatClampNeg H.size n.toNatClampNeg = vp_cell cA (n.toNatClampNeg, .inr (.inr (.inr (.inr (fun i => if i < n.toNatClampNeg then some (H.size + 1 + i) else none))))) := by
    rw [vp_cell_q]
    exact vr_outer cA n.toNatClampNeg H.size n.toNatClampNeg
  rw [hout] at f2
  have hlt : ∀ a, a ∈ L → a < H.size := fun a ha => by
    obtain ⟨k9, hk9⟩ := va_pl_get (X := X) (f := f) ha
    exact (hP k9 _ hk9).lt
  have hnl : ∀ i : Nat, i < n.toNatClampNeg → H.size + 1 + i ∉ L := fun i _ h => by
    have := hlt _ h
    omega
  have hnm : ∀ a, a ∈ (List.range n.toNatClampNeg).map (fun i => H.size + 1 + i) → a ∉ L := fun a ha h => by
    obtain ⟨i, -, rfl⟩ := List.mem_map.mp ha
    have := hlt _ h
    omega
  have hP0 : va_P D cl (X ++ va_pl L f) F.heap := hP.kept (fun k9 x hx => hold x.1 ((hP k9 x hx).lt))
  have hP1 : va_P D cl ((X ++ va_pl L f) ++ [(H.size, .inl (cA, n.toNatClampNeg, .inr (.inr (.inr (.inr (fun i => if i < n.toNatClampNeg then some (H.size + 1 + i) else none))))))]) F.heap := hP0.app (fun k9 x hx => by
    have h0 : k9 < 1 := (List.getElem?_eq_some_iff.mp hx).1
    rw [show k9 = 0 by omega] at hx
    cases hx
    exact f2)
  have hP2 : va_P D cl (((X ++ va_pl L f) ++ [(H.size, .inl (cA, n.toNatClampNeg, .inr (.inr (.inr (.inr (fun i => if i < n.toNatClampNeg then some (H.size + 1 + i) else none))))))]) ++ ((List.range n.toNatClampNeg).map (fun i => H.size + 1 + i)).map (fun a => (a, .inl (cy, z)))) F.heap := hP1.app (fun k9 x hx => by
    obtain ⟨a, ha, rfl⟩ := List.mem_map.mp (List.mem_of_getElem? hx)
    obtain ⟨i, hi, rfl⟩ := List.mem_map.mp ha
    exact hrow i (List.mem_range.mp hi))
  have hD2 : va_D A (((X ++ va_pl L f) ++ [(H.size, .inl (cA, n.toNatClampNeg, .inr (.inr (.inr (.inr (fun i => if i < n.toNatClampNeg then some (H.size + 1 + i) else none))))))]) ++ ((List.range n.toNatClampNeg).map (fun i => H.size + 1 + i)).map (fun a => (a, .inl (cy, z)))) := by
    have hD1 := hD.push (e := .inl (cA, n.toNatClampNeg, .inr (.inr (.inr (.inr (fun i => if i < n.toNatClampNeg then some (H.size + 1 + i) else none)))))) hP rfl (hA _ hS.1)
    generalize hW1 : (X ++ va_pl L f) ++ [(H.size, .inl (cA, n.toNatClampNeg, .inr (.inr (.inr (.inr (fun i => if i < n.toNatClampNeg then some (H.size + 1 + i) else none))))))] = W1 at hD1 hP1 ⊢
    have hle : ∀ (k9 : Nat) (x : Nat × va_E), W1[k9]? = some x → x.1 ≤ H.size := fun k9 x hx => by
      rw [← hW1] at hx
      by_cases hl : k9 < (X ++ va_pl L f).length
      · rw [List.getElem?_append_left hl] at hx
        exact Nat.le_of_lt ((hP k9 x hx).lt)
      · rw [List.getElem?_append_right (by omega)] at hx
        have h0 : k9 - (X ++ va_pl L f).length < 1 := (List.getElem?_eq_some_iff.mp hx).1
        rw [show k9 - (X ++ va_pl L f).length = 0 by omega] at hx
        cases hx
        exact Nat.le_refl _
    have hr : ∀ (k9 : Nat) (x : Nat × va_E), (((List.range n.toNatClampNeg).map (fun i => H.size + 1 + i)).map (fun a => ((a, .inl (cy, z)) : Nat × va_E)))[k9]? = some x → x.1 = H.size + 1 + k9 := fun k9 x hx => by
      rw [List.getElem?_map, List.getElem?_map] at hx
      by_cases h9 : k9 < n.toNatClampNeg
      · rw [List.getElem?_range h9] at hx
        cases hx
        rfl
      · have hn0 : (List.range n.toNatClampNeg)[k9]? = none := List.getElem?_eq_none (by rw [List.length_range]; omega)
        rw [hn0] at hx
        cases hx
    refine ⟨fun i j x y hi hj hxy => ?_, fun k9 x hx => ?_⟩
    · by_cases h1 : i < W1.length <;> by_cases h2 : j < W1.length
      · rw [List.getElem?_append_left h1] at hi
        rw [List.getElem?_append_left h2] at hj
        exact hD1.1 i j x y hi hj hxy
      · rw [List.getElem?_append_left h1] at hi
        rw [List.getElem?_append_right (by omega)] at hj
        have := hle _ _ hi
        have := hr _ _ hj
        omega
      · rw [List.getElem?_append_right (by omega)] at hi
        rw [List.getElem?_append_left h2] at hj
        have := hle _ _ hj
        have := hr _ _ hi
        omega
      · rw [List.getElem?_append_right (by omega)] at hi hj
        have := hr _ _ hi
        have := hr _ _ hj
        omega
    · by_cases h1 : k9 < W1.length
      · rw [List.getElem?_append_left h1] at hx
        exact hD1.2 k9 x hx
      · rw [List.getElem?_append_right (by omega)] at hx
        have := hr _ _ hx
        exact hA _ (by have := hS.1; omega)
  have hAr : ArrOfT s cA (.array ty) := fun N9 z9 => by
    obtain ⟨-, k9, hk9, cm9, hkk9⟩ := (hO 0 0 0).1
    exact ⟨(fun q hq => by cases hq), k9, hk9, cm9, hkk9⟩
  have hK2 : va_K D cl (tys ++ [(cA, .array ty)]) s := ⟨hK.1, fun k9 x hx => by
    by_cases hl : k9 < tys.length
    · rw [List.getElem?_append_left hl] at hx
      exact hK.2 k9 x hx
    · rw [List.getElem?_append_right (by omega)] at hx
      have h0 : k9 - tys.length < 1 := (List.getElem?_eq_some_iff.mp hx).1
      rw [show k9 - tys.length = 0 by omega] at hx
      cases hx
      exact ⟨hAr, fA⟩⟩
  obtain ⟨t, a1, b1⟩ := kk H.size (fun i => H.size + 1 + i) cA F.heap (fun i j _ _ h => by have h9 : H.size + 1 + i = H.size + 1 + j := h; omega) hnl hK2 (by rw [← vr_rows hnm]; exact vr_lay hP2) (by rw [← vr_rows hnm]; exact vr_layD hD2) ⟨by rw [f1]; have := hS.1; omega, fun x h1 h2 => (hold x (Nat.lt_of_lt_of_le h1 hS.1)).trans (hS.2.1 x h1 h2), hS.2.2⟩ F rfl X'
  refine ⟨t, step t ?_, b1⟩
  have e : T.heap.size = H.size := by rw [hT]
  rw [e]
  exact a1
end VGM
/-! ===== END ===== -/

/-! ===== BEGIN exceptions that leave a method, and their catching by the caller (launches without stack traces) ===== -/
section VXA
/-! The laws vx_back, vx_callV, vx_callS, vx_callSW, vx_throw0, vx_throwS follow proofs of the library, with one case more: JvmDerived/Free/Laws.lean (Back.of_free), Shelf42/LK1.lean (callV, callS), Shelf/KitTraced.lean (throwNew0V, throwNewS). -/
-- (names of Bundle are written out)
/-- where a method has thrown q: the class by its name, the cell, what was written, the world -/
def vx_T (XC : String → State → State → Prop) (st : State) (q : Addr) (t : State) (mc ms : Nat) (free : Addr → Prop) : Prop :=
  ∃ (E : String) (ce : Cell) (L : List Loc), XC E st t ∧ t.heap[q]? = some ce ∧ ce.vm = .none ∧ st.vm.findClass E = some ce.cls ∧ st.WarmedH t.vm ∧ st.sameButNew ({ t with vm := st.vm } : State) L mc ms ∧ ∀ z ∈ L, free z.base
def vx_Q (Qc : Array Value → State → Outcome → State → Prop) (XC : String → State → State → Prop) (mc ms : Nat) (free : Addr → Prop) : Array Value → State → Outcome → State → Prop := fun a st o t =>
  (Qc a st o t ∧ ∃ L, FrameEnd st o t L mc ms ∧ ∀ q ∈ L, free q.base) ∨ ∃ q, o = .threw q ∧ vx_T XC st q t mc ms free
/-- a callee that returns or throws -/
def vx_Met (l : Launch) (y : MethodName) (ws : List Cond) (rm : Room) (Pc : Array Value → State → Prop) (Qc : Array Value → State → Outcome → State → Prop) (XC : String → State → State → Prop) (mc ms : Nat) (free : Addr → Prop) : Prop :=
  MetFree l y (headSpec ws rm) Pc (fun _ _ _ _ _ => True) (vx_Q Qc XC mc ms free)
def vx_Post (XC : String → State → State → Prop) (mc ms : Nat) (free : Addr → Prop) : Pt → Array Value → Addr → Pt → Prop := fun A a q B =>
  ∃ (g : JFrame) (mk : MethodId) (t : State) (L : List Loc) (E : String) (ce : Cell), B.U.heap = t.heap ∧ B.U.vm = t.vm ∧ XC E (A.U.calling g mk a) t ∧ t.heap[q]? = some ce ∧ ce.vm = .none ∧ A.U.vm.findClass E = some ce.cls ∧ B.locs = A.locs ++ L ∧ (∀ z ∈ L, free z.base) ∧ B.cells = A.cells + mc ∧ B.slots = A.slots + ms
def vx_Back (l : Launch) (R : Room) (p : Program) (e : Env) (below : List Frame) (s : State) (sargs : Array Value) (y : MethodName) (len W9 : Nat)
    (Pre : Pt → Array Value → Prop) (Post : Pt → Array Value → Option Value → Pt → Prop) (PostX : Pt → Array Value → Addr → Pt → Prop) : Prop :=
  ∀ (m : MethodId) (meth : Method) (c : Code) (A : Pt) (g : JFrame) (ig : Instr) (mk : MethodId) (a : Array Value),
    Stand p l e R s m sargs below meth c A.U A.locs A.cells A.slots → g.method = m → g.locals.size = c.maxLocals → decode c.code g.pc = .ok (ig, len) →
    2 * g.monitorRoom + (g.stack.map fun v => v.category).sum ≤ W9 → A.U.methodNamed? y = some mk → Pre A a →
    (∃ (v : Option Value) (B : Pt), Stand p l e R s m sargs below meth c B.U B.locs B.cells B.slots ∧ Post A a v B ∧
      Steps p.tables e below (doInvoke e (A.U.setTop g) [] mk a).1 (B.U.setTop { g with pc := g.pc + len, stack := v.toList ++ g.stack })) ∨
    (∃ (q : Addr) (B : Pt), Stand p l e R s m sargs below meth c B.U B.locs B.cells B.slots ∧ PostX A a q B ∧
      Steps p.tables e below (doInvoke e (A.U.setTop g) [] mk a).1 ((B.U.setTop g).pushFrame (.throwing q)))
section Payer
variable {l : Launch} {R : Room} {p : Program} {e : Env} {below : List Frame} {s : State} {sargs : Array Value} {y : MethodName} {len W9 : Nat}
theorem vx_back {ws : List Cond} {rm : Room} {Pc : Array Value → State → Prop} {Qc : Array Value → State → Outcome → State → Prop} {XC : String → State → State → Prop} {mc ms : Nat} {free : Addr → Prop} {bytes : ByteArray} {maxL : Nat} {ret : Option FieldType}
    (hM : vx_Met l y ws rm Pc Qc XC mc ms free) (hblind : FrameBlind Pc) (hrc : rm.cells = mc) (hrs : rm.slots = ms)
    (hframes : rm.frames + 1 ≤ R.frames) (hlocals : W9 + (maxL + 11) + rm.locals ≤ R.locals)
    (hws : ∀ w ∈ ws, ∀ a' U, s.WarmedH U.vm → w.before a' U = true) (hcode : Cond.code y bytes maxL ret ∈ ws) (hinit : ∀ a' U, s.WarmedH U.vm → (Cond.initialized y.cls).before a' U = true) :
    vx_Back l R p e below s sargs y len W9 (PreOf R mc ms Pc) (PostOf Qc mc ms free) (vx_Post XC mc ms free) := by
  intro m meth c A g ig mk a X hg hsize hdg hW hn hp
  have h1 : (headSpec ws rm).pre.before a A.U = true := atoms_intro fun w hw => hws w hw _ _ X.warmed
  have h2 : (Cond.code y bytes maxL ret).before a A.U = true := hws _ hcode _ _ X.warmed
  have h3 : (Cond.initialized y.cls).before a A.U = true := hinit _ _ X.warmed
  have h4 : A.cells + (headSpec ws rm).room.cells ≤ R.cells := by rw [show (headSpec ws rm).room.cells = mc from hrc]; exact hp.1
  have h5 : A.slots + (headSpec ws rm).room.slots ≤ R.slots := by rw [show (headSpec ws rm).room.slots = ms from hrs]; exact hp.2.1
  have hPc : Pc a (A.U.calling g mk a) := hblind _ _ _ _ hp.2.2
  obtain ⟨U, Ls, c0, s0⟩ := A
  dsimp only [Pt.U, Pt.locs, Pt.cells, Pt.slots] at h1 h2 h3 h4 h5 X hn hPc ⊢
  obtain ⟨methY, cY, hmY, hcY, -, hlY, -, -, -, -⟩ := Cond.code_spec hn h2
  obtain ⟨kY, hkY, -⟩ := className_of_methodNamed hn
  have hinitY : kY.init = .initialized := Cond.initialized_spec (findClass_of_methodNamed hn) hkY h3
  have h : At U g.method c below := by rw [hg]; exact X.here
  have hlocals9 : W9 + (maxL + 11) + (headSpec ws rm).room.locals ≤ R.locals := hlocals
  have happ : (headSpec ws rm).appliesLoose y e.platform (U.calling g mk a) = true :=
    Spec.appliesLoose_calling (g := g) h hdg hn hkY hinitY
      (X.room_calling (g := g) (R' := (headSpec ws rm).room) hsize hmY hcY hframes (by rw [hlY]; omega) h4 h5) h1
  obtain ⟨mid, hmid⟩ := h.above
  have hfr : (U.setTop g).frames = (.java g :: mid) ++ below := by rw [State.frames_setTop' g h.top, hmid]; rfl
  obtain ⟨o, s₂, hsteps, -, hend, hq⟩ := Steps.callFree hM p X.admits X.cas X.clock (acts := []) hfr happ hPc trivial
  have hq' : vx_Q Qc XC mc ms free a (U.calling g mk a) o s₂ := hq
  rw [State.frames_setTop' g h.top] at hend
  obtain ⟨g₀, hg0⟩ := Option.isSome_iff_exists.mp h.top
  obtain ⟨r, hr⟩ := State.topJava?_eq_some.mp hg0
  have hr' : (({ U with heap := s₂.heap, slotsUsed := s₂.slotsUsed } : State).setVm s₂.vm).frames = .java g₀ :: r := hr
  rcases hq' with ⟨hqc, L, hfe, hL⟩ | ⟨q, rfl, E, ce, L, hx, hce, hcv, hcl, hW₂, hsm, hL⟩
  · obtain ⟨⟨v, rfl⟩, hW₂, e2, q2, q3, q4, q5, q6⟩ := id hfe
    have e3 : s₂ = ({ (U.calling g mk a).setFrames s₂.frames with heap := s₂.heap, slotsUsed := s₂.slotsUsed } : State).setVm s₂.vm := by
      have : s₂ = ({ s₂ with vm := (U.calling g mk a).vm } : State).setVm s₂.vm := rfl
      rw [e2] at this
      exact this
    obtain ⟨c₂, i₂, len₂, hc₂, hd₂, hf₂⟩ := hend
    have hW' : U.WarmedH s₂.vm := hW₂
    have hcc : c₂ = c := by
      have h1 : s₂.code? g.method = U.code? g.method := by
        rw [State.code?_eq, State.code?_eq, hW'.alike.method?]
      exact Option.some.inj (hc₂.symm.trans (h1.trans h.code))
    subst hcc
    have hlen : len₂ = len := by rw [hdg] at hd₂; cases hd₂; rfl
    subst hlen
    have hs₂ : s₂ = (({ U with heap := s₂.heap, slotsUsed := s₂.slotsUsed } : State).setVm s₂.vm).setTop { g with pc := g.pc + len₂, stack := v.toList ++ g.stack } := by
      refine e3.trans ?_
      rw [hf₂, State.calling_eq h.top, State.setFrames_setFrames, State.setTop_of_frames _ hr', hr]
      rfl
    have hsame : U.sameButNew ({ U with heap := s₂.heap, slotsUsed := s₂.slotsUsed } : State) L mc ms := by
      refine ⟨?_, q2, q3, q4, q5, q6⟩
      obtain ⟨t, ht, -⟩ := State.frames_cons hr
      show ({ U with heap := s₂.heap, slotsUsed := s₂.slotsUsed } : State) = { U.setFrames U.frames with heap := s₂.heap, slotsUsed := s₂.slotsUsed }
      rw [State.setFrames_self ht]
    subst hg
    refine Or.inl ⟨v, ⟨(({ U with heap := s₂.heap, slotsUsed := s₂.slotsUsed } : State).setVm s₂.vm), Ls ++ L, c0 + mc, s0 + ms⟩,
      ⟨X.admits, X.cas, X.clock, X.frames, X.room, X.hears, X.method, X.code, (X.here.setHeapUsed s₂.heap s₂.slotsUsed).setVm hW'.alike, X.tail, State.WarmedH.trans X.warmed hW', X.limits, X.bytes, X.same.trans (hsame.setVm s.vm)⟩,
      ⟨g, mk, s₂, L, rfl, rfl, hqc, rfl, hL, rfl, rfl⟩, ?_⟩
    show Steps p.tables e below _ ((({ U with heap := s₂.heap, slotsUsed := s₂.slotsUsed } : State).setVm s₂.vm).setTop { g with pc := g.pc + len₂, stack := v.toList ++ g.stack })
    rw [← hs₂]
    exact hsteps
  · obtain ⟨e2, q2, q3, q4, q5, q6⟩ := id hsm
    have e3 : s₂ = ({ (U.calling g mk a).setFrames s₂.frames with heap := s₂.heap, slotsUsed := s₂.slotsUsed } : State).setVm s₂.vm := by
      have : s₂ = ({ s₂ with vm := (U.calling g mk a).vm } : State).setVm s₂.vm := rfl
      rw [e2] at this
      exact this
    have hf₂ : s₂.frames = .throwing q :: .java g :: U.frames.tail := hend
    have hW' : U.WarmedH s₂.vm := hW₂
    have hs₂ : s₂ = ((({ U with heap := s₂.heap, slotsUsed := s₂.slotsUsed } : State).setVm s₂.vm).setTop g).pushFrame (.throwing q) := by
      refine e3.trans ?_
      rw [hf₂, State.calling_eq h.top, State.setFrames_setFrames, State.pushFrame, State.frames_setTop _ hr', State.setTop_of_frames _ hr', State.setFrames_setFrames, hr]
      rfl
    have hsame : U.sameButNew ({ U with heap := s₂.heap, slotsUsed := s₂.slotsUsed } : State) L mc ms := by
      refine ⟨?_, q2, q3, q4, q5, q6⟩
      obtain ⟨t, ht, -⟩ := State.frames_cons hr
      show ({ U with heap := s₂.heap, slotsUsed := s₂.slotsUsed } : State) = { U.setFrames U.frames with heap := s₂.heap, slotsUsed := s₂.slotsUsed }
      rw [State.setFrames_self ht]
    subst hg
    refine Or.inr ⟨q, ⟨(({ U with heap := s₂.heap, slotsUsed := s₂.slotsUsed } : State).setVm s₂.vm), Ls ++ L, c0 + mc, s0 + ms⟩,
      ⟨X.admits, X.cas, X.clock, X.frames, X.room, X.hears, X.method, X.code, (X.here.setHeapUsed s₂.heap s₂.slotsUsed).setVm hW'.alike, X.tail, State.WarmedH.trans X.warmed hW', X.limits, X.bytes, X.same.trans (hsame.setVm s.vm)⟩,
      ⟨g, mk, s₂, L, E, ce, rfl, rfl, hx, hce, hcv, hcl, rfl, hL, rfl, rfl⟩, ?_⟩
    show Steps p.tables e below _ (((({ U with heap := s₂.heap, slotsUsed := s₂.slotsUsed } : State).setVm s₂.vm).setTop g).pushFrame (.throwing q))
    rw [← hs₂]
    exact hsteps
end Payer
section Calls
variable {p : Program} {l : Launch} {e : Env} {R : Room} {s : State} {m : MethodId} {args : Array Value} {below : List Frame} {meth : Method} {c : Code} {T : State} {locs : List Loc} {cells slots : Nat}
theorem vx_callV (X : Stand p l e R s m args below meth c T locs cells slots) (hexec : p.tables.exec = Jvm.exec) {own C : String} {index : Nat} {y : MethodName} {bytes : ByteArray} {maxL : Nat} {ret : Option FieldType}
    (hown : s.vm.findClass own = some m.cls) (hlink : (Cond.methodLink own index y).before args s = true) (hinst : (Cond.instanceMethod y).before args s = true) (hsel : (Cond.selects C y y).before args s = true)
    (hcode : (Cond.code y bytes maxL ret).before args s = true) (hy : y.cls ≠ "java/lang/invoke/MethodHandle" ∧ y.cls ≠ "java/lang/invoke/VarHandle")
    {W9 : Nat} {Pre : Pt → Array Value → Prop} {Post : Pt → Array Value → Option Value → Pt → Prop} {PostX : Pt → Array Value → Addr → Pt → Prop} (hK : vx_Back l R p e below s args y 3 W9 Pre Post PostX)
    {b : Addr} {cellB : Cell} (hcell : T.heap[b]? = some cellB) (hobj : cellB.vm.isStatics = false) (hcls : s.vm.findClass C = some cellB.cls)
    {g : JFrame} (hg : g.method = m) (hsize : g.locals.size = c.maxLocals) {argsL rest : List Value} (hlen : ∀ sig, parseMethodDescriptor y.desc = some sig → argsL.length = sig.parameters.length)
    (hstack : g.stack = argsL.reverse ++ .ref b :: rest) (hW : 2 * g.monitorRoom + (rest.map fun v => v.category).sum ≤ W9) (hdg : decode c.code g.pc = .ok (.invokevirtual index, 3))
    (hpre : ∀ vm₁, s.WarmedH vm₁ → Pre ⟨T.setVm vm₁, locs, cells, slots⟩ (Value.ref b :: argsL).toArray) :
    (∃ (v : Option Value) (vm₁ : Vm) (B : Pt), s.WarmedH vm₁ ∧ Stand p l e R s m args below meth c B.U B.locs B.cells B.slots ∧ Post ⟨T.setVm vm₁, locs, cells, slots⟩ (Value.ref b :: argsL).toArray v B ∧
      ∀ target, Steps p.tables e below (B.U.setTop { g with pc := g.pc + 3, stack := v.toList ++ rest }) target → Steps p.tables e below (T.setTop g) target) ∨
    (∃ (q : Addr) (vm₁ : Vm) (B : Pt), s.WarmedH vm₁ ∧ Stand p l e R s m args below meth c B.U B.locs B.cells B.slots ∧ PostX ⟨T.setVm vm₁, locs, cells, slots⟩ (Value.ref b :: argsL).toArray q B ∧
      Steps p.tables e below (T.setTop g) ((B.U.setTop { g with stack := rest }).pushFrame (.throwing q))) := by
  obtain ⟨mk, methM, hnamed, hmethM, hstM, habM⟩ := Cond.instanceMethod_spec hinst
  obtain ⟨methM', cM, hmethM', -, -, -, -, -, -, hsigM⟩ := Cond.code_spec hnamed hcode
  cases hmethM.symm.trans hmethM'
  obtain ⟨c2, r2, m2, q1, q2, q3, q4, kP, hkP, hkPi⟩ := Cond.selects_spec hsel
  cases hcls.symm.trans q1
  cases (State.methodFound?_of_named hnamed hy).symm.trans q2
  cases hnamed.symm.trans q3
  have hselP : selectMethod e.platform s.vm cellB.cls mk = .method mk := by rw [Launch.admits_selectMethod X.admits]; exact q4
  obtain ⟨vm₁, X₁, hstep₁⟩ := X.invokevirtual hexec hown hlink hnamed hmethM hstM hkP hkPi hy (a := b) (cell := cellB) hcell
    (fun z h => by rw [h] at hobj; cases hobj) hselP hmethM habM hkP hkPi (g := g) hg (argsL := argsL) (rest := rest) (hlen _ hsigM) hstack hdg
  rcases hK m meth c ⟨T.setVm vm₁, locs, cells, slots⟩ { g with stack := rest } (.invokevirtual index) mk (Value.ref b :: argsL).toArray X₁ hg hsize hdg hW (X₁.named hnamed) (hpre vm₁ X₁.warmed) with ⟨v, B, X', hpost, hsteps⟩ | ⟨q, B, X', hpost, hsteps⟩
  · exact Or.inl ⟨v, vm₁, B, X₁.warmed, X', hpost, fun target h => hstep₁ _ fun acts => by rw [doInvoke_state]; exact hsteps.trans h⟩
  · exact Or.inr ⟨q, vm₁, B, X₁.warmed, X', hpost, hstep₁ _ fun acts => by rw [doInvoke_state]; exact hsteps⟩
theorem vx_callS (X : Stand p l e R s m args below meth c T locs cells slots) (hexec : p.tables.exec = Jvm.exec) {own : String} {index : Nat} {y : MethodName} {bytes : ByteArray} {maxL : Nat} {ret : Option FieldType}
    (hown : s.vm.findClass own = some m.cls) (hlink : (Cond.methodLink own index y).before args s = true) (hstat : (Cond.static y).before args s = true) (hinit : (Cond.initialized y.cls).before args s = true)
    (hcode : (Cond.code y bytes maxL ret).before args s = true) (hy : y.cls ≠ "java/lang/invoke/MethodHandle" ∧ y.cls ≠ "java/lang/invoke/VarHandle")
    {W9 : Nat} {Pre : Pt → Array Value → Prop} {Post : Pt → Array Value → Option Value → Pt → Prop} {PostX : Pt → Array Value → Addr → Pt → Prop} (hK : vx_Back l R p e below s args y 3 W9 Pre Post PostX)
    {g : JFrame} (hg : g.method = m) (hsize : g.locals.size = c.maxLocals) {argsL rest : List Value} (hlen : ∀ sig, parseMethodDescriptor y.desc = some sig → argsL.length = sig.parameters.length)
    (hstack : g.stack = argsL.reverse ++ rest) (hW : 2 * g.monitorRoom + (rest.map fun v => v.category).sum ≤ W9) (hdg : decode c.code g.pc = .ok (.invokestatic index, 3))
    (hpre : ∀ vm₁, s.WarmedH vm₁ → Pre ⟨T.setVm vm₁, locs, cells, slots⟩ argsL.toArray) :
    (∃ (v : Option Value) (vm₁ : Vm) (B : Pt), s.WarmedH vm₁ ∧ Stand p l e R s m args below meth c B.U B.locs B.cells B.slots ∧ Post ⟨T.setVm vm₁, locs, cells, slots⟩ argsL.toArray v B ∧
      ∀ target, Steps p.tables e below (B.U.setTop { g with pc := g.pc + 3, stack := v.toList ++ rest }) target → Steps p.tables e below (T.setTop g) target) ∨
    (∃ (q : Addr) (vm₁ : Vm) (B : Pt), s.WarmedH vm₁ ∧ Stand p l e R s m args below meth c B.U B.locs B.cells B.slots ∧ PostX ⟨T.setVm vm₁, locs, cells, slots⟩ argsL.toArray q B ∧
      Steps p.tables e below (T.setTop g) ((B.U.setTop { g with stack := rest }).pushFrame (.throwing q))) := by
  obtain ⟨mk, hnamed⟩ := Cond.code_named hcode
  obtain ⟨methM, cM, hmethM, -, -, -, -, -, -, hsigM⟩ := Cond.code_spec hnamed hcode
  have hstatic : methM.isStatic = true := Cond.static_spec hnamed hmethM hstat
  obtain ⟨kP, hkP, -⟩ := className_of_methodNamed hnamed
  have hinitP : kP.init = .initialized := Cond.initialized_spec (findClass_of_methodNamed hnamed) hkP hinit
  obtain ⟨vm₁, X₁, hstep₁⟩ := X.invokestatic hexec hown hlink hnamed hmethM hstatic hkP hinitP hy (g := g) hg (argsL := argsL) (rest := rest) (hlen _ hsigM) hstack hdg
  rcases hK m meth c ⟨T.setVm vm₁, locs, cells, slots⟩ { g with stack := rest } (.invokestatic index) mk argsL.toArray X₁ hg hsize hdg hW (X₁.named hnamed) (hpre vm₁ X₁.warmed) with ⟨v, B, X', hpost, hsteps⟩ | ⟨q, B, X', hpost, hsteps⟩
  · exact Or.inl ⟨v, vm₁, B, X₁.warmed, X', hpost, fun target h => hstep₁ _ fun acts => by rw [doInvoke_state]; exact hsteps.trans h⟩
  · exact Or.inr ⟨q, vm₁, B, X₁.warmed, X', hpost, hstep₁ _ fun acts => by rw [doInvoke_state]; exact hsteps⟩
end Calls
theorem vx_cls {s : State} {T : State} {vm₁ : Vm} {E : String} {k : ClassId} (hW : s.WarmedH vm₁) (h : (T.setVm vm₁).vm.findClass E = some k) : s.vm.findClass E = some k := by
  have h1 : vm₁.findClass E = some k := h
  rw [hW.alike.findClass] at h1
  exact h1
/-- the method's frame g, with q thrown over it -/
def vx_W (p : Program) (l : Launch) (e : Env) (R : Room) (s : State) (m : MethodId) (args : Array Value) (below : List Frame) (meth : Method) (c : Code) (H : Heap) (locs : List Loc) (cells slots : Nat) (Q : State → Prop) (g : JFrame) (q : Addr) : Prop :=
  ∀ T : State, T.heap = H → Stand p l e R s m args below meth c T locs cells slots → ∃ t, Steps p.tables e below ((T.setTop g).pushFrame (.throwing q)) t ∧ Q t
def vx_Run (p : Program) (l : Launch) (e : Env) (R : Room) (s : State) (m : MethodId) (args : Array Value) (below : List Frame) (meth : Method) (c : Code) (H : Heap) (locs : List Loc) (cells slots mc ms : Nat) (g : JFrame) (rest : List Value) (Qa : State → Outcome → State → Prop) (XC : String → State → State → Prop) (free : Addr → Prop) : Prop :=
  ∀ T : State, T.heap = H → Stand p l e R s m args below meth c T locs cells slots →
    (∃ (v : Option Value) (st₀ t T' : State) (L : List Loc), st₀.heap = H ∧ Stand p l e R s m args below meth c T' (locs ++ L) (cells + mc) (slots + ms) ∧ (∀ q ∈ L, free q.base) ∧ T'.heap = t.heap ∧ T'.vm = t.vm ∧ Qa st₀ (.returned v) t ∧
      Goes p e below T g T' { g with pc := g.pc + 3, stack := v.toList ++ rest }) ∨
    (∃ (q : Addr) (st₀ t T' : State) (L : List Loc) (E : String) (ce : Cell), st₀.heap = H ∧ Stand p l e R s m args below meth c T' (locs ++ L) (cells + mc) (slots + ms) ∧ (∀ z ∈ L, free z.base) ∧ T'.heap = t.heap ∧ T'.vm = t.vm ∧ XC E st₀ t ∧ t.heap[q]? = some ce ∧ ce.vm = .none ∧ s.vm.findClass E = some ce.cls ∧
      Steps p.tables e below (T.setTop g) ((T'.setTop { g with stack := rest }).pushFrame (.throwing q)))
def vx_X {S : Type} (px : S → Prop) (B : String → S → State → Prop) (A : Nat → Prop) : String → State → State → Prop := fun E st t => ∃ u : S, px u ∧ B E u t ∧ va_F A st t
section Runs
variable {p : Program} {l : Launch} {e : Env} {R : Room} {s : State} {m : MethodId} {args : Array Value} {below : List Frame} {meth : Method} {c : Code} {H : Heap} {locs : List Loc} {cells slots : Nat}
variable {y : MethodName} {bytes cc : ByteArray} {maxL nL mc ms n index : Nat} {ret : Option FieldType} {ws : List Cond} {rm : Room} {Pc : Array Value → State → Prop} {Qc : Array Value → State → Outcome → State → Prop} {XC : String → State → State → Prop} {free : Addr → Prop} {Ts : List Cond} {own C : String} {b : Addr} {As rest : List Value} {g : JFrame}
theorem vx_callBack (cb : CallB R s args own index y bytes maxL ret ws rm mc ms n) (hM : vx_Met l y ws rm Pc Qc XC mc ms free) (hbl : FrameBlind Pc) : vx_Back l R p e below s args y 3 8 (PreOf R mc ms Pc) (PostOf Qc mc ms free) (vx_Post XC mc ms free) := by
  obtain ⟨hrc, hrs, hfr, hlo, hws, hcw, -, hini, -⟩ := cb
  exact vx_back (bytes := bytes) (maxL := maxL) (ret := ret) hM hbl hrc hrs hfr hlo hws hcw (fun a' U hW => word_at hW (Or.inl (by first | rfl | simp [Cond.onTables, Cond.keeps, Cond.steady])) hini)
theorem vx_runV (S : CallFix p m c cc nL s args Ts own) (hM : vx_Met l y ws rm Pc Qc XC mc ms free) (cw : CallW R s args own C index y bytes maxL ret ws rm mc ms n) (hp : PreV s H C b Pc As)
    (hg : g.method = m) (hn : As.length = n) (hsize : g.locals.size = nL) (hstack : g.stack = As.reverse ++ .ref b :: rest) (hW : 2 * g.monitorRoom + (rest.map fun v => v.category).sum ≤ 8) (hdg : decode cc g.pc = .ok (.invokevirtual index, 3)) (hf : cells + mc ≤ R.cells ∧ slots + ms ≤ R.slots) :
    vx_Run p l e R s m args below meth c H locs cells slots mc ms g rest (Qc (Value.ref b :: As).toArray) XC free := by
  have hK : vx_Back l R p e below s args y 3 8 (PreOf R mc ms Pc) (PostOf Qc mc ms free) (vx_Post XC mc ms free) := vx_callBack cw.1 hM hp.1
  obtain ⟨⟨-, -, -, -, -, -, hcode, -, hy, hlen, hl⟩, hin, hse⟩ := cw
  obtain ⟨hx, hb, hml, ho, -⟩ := S
  obtain ⟨-, ⟨cellB, hcB, hoB, hclB⟩, hPc⟩ := hp
  intro T hT X
  rcases vx_callV X hx (C := C) (bytes := bytes) (maxL := maxL) (ret := ret) ho hl hin hse hcode hy hK (by rw [hT]; exact hcB) hoB hclB hg (hsize.trans hml.symm) (argsL := As) (rest := rest) (fun sig h => hn.trans (hlen sig h)) hstack hW (by rw [hb]; exact hdg)
    (fun vm₁ hW₁ => ⟨hf.1, hf.2, hPc (T.setVm vm₁) hT hW₁⟩) with ⟨v, vm₁, ⟨U', l2, c2, s2⟩, hW₁, X', ⟨g', mk, t, L, e1, e2, hq, h1, hL, h2, h3⟩, st⟩ | ⟨q, vm₁, ⟨U', l2, c2, s2⟩, hW₁, X', ⟨g', mk, t, L, E, ce, e1, e2, hq, hce, hcv, hcl, h1, hL, h2, h3⟩, st⟩
  · dsimp only [Pt.U, Pt.locs, Pt.cells, Pt.slots] at X' e1 e2 h1 h2 h3 st
    subst h1; subst h2; subst h3
    exact Or.inl ⟨v, (T.setVm vm₁).calling g' mk (Value.ref b :: As).toArray, t, U', L, hT, X', hL, e1, e2, hq, st⟩
  · dsimp only [Pt.U, Pt.locs, Pt.cells, Pt.slots] at X' e1 e2 h1 h2 h3 st hcl
    subst h1; subst h2; subst h3
    exact Or.inr ⟨q, (T.setVm vm₁).calling g' mk (Value.ref b :: As).toArray, t, U', L, E, ce, hT, X', hL, e1, e2, hq, hce, hcv, vx_cls hW₁ hcl, st⟩
theorem vx_runS (S : CallFix p m c cc nL s args Ts own) (hM : vx_Met l y ws rm Pc Qc XC mc ms free) (cw : CallB R s args own index y bytes maxL ret ws rm mc ms n ∧ (Cond.static y).before args s = true) (hp : PreS s H Pc As)
    (hg : g.method = m) (hn : As.length = n) (hsize : g.locals.size = nL) (hstack : g.stack = As.reverse ++ rest) (hW : 2 * g.monitorRoom + (rest.map fun v => v.category).sum ≤ 8) (hdg : decode cc g.pc = .ok (.invokestatic index, 3)) (hf : cells + mc ≤ R.cells ∧ slots + ms ≤ R.slots) :
    vx_Run p l e R s m args below meth c H locs cells slots mc ms g rest (Qc As.toArray) XC free := by
  have hK : vx_Back l R p e below s args y 3 8 (PreOf R mc ms Pc) (PostOf Qc mc ms free) (vx_Post XC mc ms free) := vx_callBack cw.1 hM hp.1
  obtain ⟨⟨-, -, -, -, -, -, hcode, hini, hy, hlen, hl⟩, hstt⟩ := cw
  obtain ⟨hx, hb, hml, ho, -⟩ := S
  intro T hT X
  rcases vx_callS X hx (bytes := bytes) (maxL := maxL) (ret := ret) ho hl hstt hini hcode hy hK hg (hsize.trans hml.symm) (argsL := As) (rest := rest) (fun sig h => hn.trans (hlen sig h)) hstack hW (by rw [hb]; exact hdg)
    (fun vm₁ hW₁ => ⟨hf.1, hf.2, hp.2 (T.setVm vm₁) hT hW₁⟩) with ⟨v, vm₁, ⟨U', l2, c2, s2⟩, hW₁, X', ⟨g', mk, t, L, e1, e2, hq, h1, hL, h2, h3⟩, st⟩ | ⟨q, vm₁, ⟨U', l2, c2, s2⟩, hW₁, X', ⟨g', mk, t, L, E, ce, e1, e2, hq, hce, hcv, hcl, h1, hL, h2, h3⟩, st⟩
  · dsimp only [Pt.U, Pt.locs, Pt.cells, Pt.slots] at X' e1 e2 h1 h2 h3 st
    subst h1; subst h2; subst h3
    exact Or.inl ⟨v, (T.setVm vm₁).calling g' mk As.toArray, t, U', L, hT, X', hL, e1, e2, hq, st⟩
  · dsimp only [Pt.U, Pt.locs, Pt.cells, Pt.slots] at X' e1 e2 h1 h2 h3 st hcl
    subst h1; subst h2; subst h3
    exact Or.inr ⟨q, (T.setVm vm₁).calling g' mk As.toArray, t, U', L, E, ce, hT, X', hL, e1, e2, hq, hce, hcv, vx_cls hW₁ hcl, st⟩
end Runs
section Rows
variable {p : Program} {l : Launch} {e : Env} {R : Room} {s : State} {m : MethodId} {args : Array Value} {below : List Frame} {meth : Method} {c : Code} {H : Heap} {locs : List Loc} {cells slots : Nat} {Q : State → Prop}
variable {mc ms : Nat} {free : Addr → Prop} {A0 A1 : Nat → Prop} {H0 : Heap} {a : Array Value} {pc : Nat} {ls : Array Slot} {st0 rest : List Value}
theorem vx_keep {st₀ t T' : State} {L : List Loc} (h0 : st₀.heap = H) (e1 : T'.heap = t.heap) (hS : va_S A0 H0 H locs) (hA : ∀ q, q < H.size → A1 q → A0 q) (hf : ∀ q, free q → A0 q) (hL : ∀ q ∈ L, free q.base) (hF : va_F A1 st₀ t) :
    H.size ≤ T'.heap.size ∧ (∀ q : Nat, q < H.size → ¬ A1 q → T'.heap[q]? = H[q]?) ∧ va_S A0 H0 T'.heap (locs ++ L) := by
  obtain ⟨hz, hk⟩ := hF
  rw [h0] at hz hk
  exact ⟨by rw [e1]; exact hz, fun q h1 h2 => by rw [e1]; exact hk q h1 h2,
    ⟨Nat.le_trans hS.1 (by rw [e1]; exact hz), fun q h1 h2 => by rw [e1, hk q (Nat.lt_of_lt_of_le h1 hS.1) (fun z => h2 (hA q (Nat.lt_of_lt_of_le h1 hS.1) z))]; exact hS.2.1 q h1 h2, fun q hq => by
      rcases List.mem_append.mp hq with h | h
      · exact hS.2.2 q h
      · exact hf _ (hL q h)⟩⟩
theorem vx_calli {S SX : Type} {post : Int32 → S → Prop} {px : SX → Prop} {B : S → State → Prop} {BX : String → SX → State → Prop} {AX : Nat → Prop} (hr : vx_Run p l e R s m args below meth c H locs cells slots mc ms (F0 m pc ls st0) rest (va_Qi post B A1 a) (vx_X px BX AX) free) (hS : va_S A0 H0 H locs) (hA : ∀ q, q < H.size → A1 q → A0 q) (hf : ∀ q, free q → A0 q) (hAX : ∀ q, q < H.size → AX q → A0 q)
    (kx : ∀ (E : String) (ce : Cell) (q9 : Addr) (u : SX) (t : State) (H1 : Heap) (locs1 : List Loc), t.heap = H1 → s.vm.Alike t.vm → px u → BX E u t → H.size ≤ H1.size → (∀ q : Nat, q < H.size → ¬ AX q → H1[q]? = H[q]?) → va_S A0 H0 H1 locs1 → H1[q9]? = some ce → ce.vm = .none → s.vm.findClass E = some ce.cls → vx_W p l e R s m args below meth c H1 locs1 (cells + mc) (slots + ms) Q (F0 m pc ls rest) q9)
    (kk : ∀ (r : Int32) (u : S) (t : State) (H1 : Heap) (locs1 : List Loc), t.heap = H1 → s.vm.Alike t.vm → post r u → B u t → H.size ≤ H1.size → (∀ q : Nat, q < H.size → ¬ A1 q → H1[q]? = H[q]?) → va_S A0 H0 H1 locs1 → W p l e R s m args below meth c H1 locs1 (cells + mc) (slots + ms) Q (F0 m (pc + 3) ls (.int r :: rest))) : W p l e R s m args below meth c H locs cells slots Q (F0 m pc ls st0) := by
  intro T hT X
  rcases hr T hT X with ⟨v, st₀, t, T', L, h0, X', hL, e1, e2, ⟨⟨r, u, hv, hp, hb⟩, hF⟩, st⟩ | ⟨q, st₀, t, T', L, E, ce, h0, X', hL, e1, e2, ⟨u, hp, hb, hF⟩, hce, hcv, hcl, st⟩
  · cases hv
    obtain ⟨k1, k2, k3⟩ := vx_keep h0 e1 hS hA hf hL hF
    obtain ⟨t2, a1, b1⟩ := kk r u t T'.heap (locs ++ L) e1.symm (by rw [← e2]; exact X'.warmed.alike) hp hb k1 k2 k3 T' rfl X'
    exact ⟨t2, st t2 a1, b1⟩
  · obtain ⟨k1, k2, k3⟩ := vx_keep h0 e1 hS hAX hf hL hF
    obtain ⟨t2, a1, b1⟩ := kx E ce q u t T'.heap (locs ++ L) e1.symm (by rw [← e2]; exact X'.warmed.alike) hp hb k1 k2 k3 (by rw [e1]; exact hce) hcv hcl T' rfl X'
    exact ⟨t2, st.trans a1, b1⟩
theorem vx_calll {S SX : Type} {post : Int64 → S → Prop} {px : SX → Prop} {B : S → State → Prop} {BX : String → SX → State → Prop} {AX : Nat → Prop} (hr : vx_Run p l e R s m args below meth c H locs cells slots mc ms (F0 m pc ls st0) rest (va_Ql post B A1 a) (vx_X px BX AX) free) (hS : va_S A0 H0 H locs) (hA : ∀ q, q < H.size → A1 q → A0 q) (hf : ∀ q, free q → A0 q) (hAX : ∀ q, q < H.size → AX q → A0 q)
    (kx : ∀ (E : String) (ce : Cell) (q9 : Addr) (u : SX) (t : State) (H1 : Heap) (locs1 : List Loc), t.heap = H1 → s.vm.Alike t.vm → px u → BX E u t → H.size ≤ H1.size → (∀ q : Nat, q < H.size → ¬ AX q → H1[q]? = H[q]?) → va_S A0 H0 H1 locs1 → H1[q9]? = some ce → ce.vm = .none → s.vm.findClass E = some ce.cls → vx_W p l e R s m args below meth c H1 locs1 (cells + mc) (slots + ms) Q (F0 m pc ls rest) q9)
    (kk : ∀ (r : Int64) (u : S) (t : State) (H1 : Heap) (locs1 : List Loc), t.heap = H1 → s.vm.Alike t.vm → post r u → B u t → H.size ≤ H1.size → (∀ q : Nat, q < H.size → ¬ A1 q → H1[q]? = H[q]?) → va_S A0 H0 H1 locs1 → W p l e R s m args below meth c H1 locs1 (cells + mc) (slots + ms) Q (F0 m (pc + 3) ls (.long r :: rest))) : W p l e R s m args below meth c H locs cells slots Q (F0 m pc ls st0) := by
  intro T hT X
  rcases hr T hT X with ⟨v, st₀, t, T', L, h0, X', hL, e1, e2, ⟨⟨r, u, hv, hp, hb⟩, hF⟩, st⟩ | ⟨q, st₀, t, T', L, E, ce, h0, X', hL, e1, e2, ⟨u, hp, hb, hF⟩, hce, hcv, hcl, st⟩
  · cases hv
    obtain ⟨k1, k2, k3⟩ := vx_keep h0 e1 hS hA hf hL hF
    obtain ⟨t2, a1, b1⟩ := kk r u t T'.heap (locs ++ L) e1.symm (by rw [← e2]; exact X'.warmed.alike) hp hb k1 k2 k3 T' rfl X'
    exact ⟨t2, st t2 a1, b1⟩
  · obtain ⟨k1, k2, k3⟩ := vx_keep h0 e1 hS hAX hf hL hF
    obtain ⟨t2, a1, b1⟩ := kx E ce q u t T'.heap (locs ++ L) e1.symm (by rw [← e2]; exact X'.warmed.alike) hp hb k1 k2 k3 (by rw [e1]; exact hce) hcv hcl T' rfl X'
    exact ⟨t2, st.trans a1, b1⟩
theorem vx_callf {S SX : Type} {post : UInt32 → S → Prop} {px : SX → Prop} {B : S → State → Prop} {BX : String → SX → State → Prop} {AX : Nat → Prop} (hr : vx_Run p l e R s m args below meth c H locs cells slots mc ms (F0 m pc ls st0) rest (va_Qf post B A1 a) (vx_X px BX AX) free) (hS : va_S A0 H0 H locs) (hA : ∀ q, q < H.size → A1 q → A0 q) (hf : ∀ q, free q → A0 q) (hAX : ∀ q, q < H.size → AX q → A0 q)
    (kx : ∀ (E : String) (ce : Cell) (q9 : Addr) (u : SX) (t : State) (H1 : Heap) (locs1 : List Loc), t.heap = H1 → s.vm.Alike t.vm → px u → BX E u t → H.size ≤ H1.size → (∀ q : Nat, q < H.size → ¬ AX q → H1[q]? = H[q]?) → va_S A0 H0 H1 locs1 → H1[q9]? = some ce → ce.vm = .none → s.vm.findClass E = some ce.cls → vx_W p l e R s m args below meth c H1 locs1 (cells + mc) (slots + ms) Q (F0 m pc ls rest) q9)
    (kk : ∀ (r : UInt32) (u : S) (t : State) (H1 : Heap) (locs1 : List Loc), t.heap = H1 → s.vm.Alike t.vm → post r u → B u t → H.size ≤ H1.size → (∀ q : Nat, q < H.size → ¬ A1 q → H1[q]? = H[q]?) → va_S A0 H0 H1 locs1 → W p l e R s m args below meth c H1 locs1 (cells + mc) (slots + ms) Q (F0 m (pc + 3) ls (.float r :: rest))) : W p l e R s m args below meth c H locs cells slots Q (F0 m pc ls st0) := by
  intro T hT X
  rcases hr T hT X with ⟨v, st₀, t, T', L, h0, X', hL, e1, e2, ⟨⟨r, u, hv, hp, hb⟩, hF⟩, st⟩ | ⟨q, st₀, t, T', L, E, ce, h0, X', hL, e1, e2, ⟨u, hp, hb, hF⟩, hce, hcv, hcl, st⟩
  · cases hv
    obtain ⟨k1, k2, k3⟩ := vx_keep h0 e1 hS hA hf hL hF
    obtain ⟨t2, a1, b1⟩ := kk r u t T'.heap (locs ++ L) e1.symm (by rw [← e2]; exact X'.warmed.alike) hp hb k1 k2 k3 T' rfl X'
    exact ⟨t2, st t2 a1, b1⟩
  · obtain ⟨k1, k2, k3⟩ := vx_keep h0 e1 hS hAX hf hL hF
    obtain ⟨t2, a1, b1⟩ := kx E ce q u t T'.heap (locs ++ L) e1.symm (by rw [← e2]; exact X'.warmed.alike) hp hb k1 k2 k3 (by rw [e1]; exact hce) hcv hcl T' rfl X'
    exact ⟨t2, st.trans a1, b1⟩
theorem vx_calld {S SX : Type} {post : UInt64 → S → Prop} {px : SX → Prop} {B : S → State → Prop} {BX : String → SX → State → Prop} {AX : Nat → Prop} (hr : vx_Run p l e R s m args below meth c H locs cells slots mc ms (F0 m pc ls st0) rest (va_Qd post B A1 a) (vx_X px BX AX) free) (hS : va_S A0 H0 H locs) (hA : ∀ q, q < H.size → A1 q → A0 q) (hf : ∀ q, free q → A0 q) (hAX : ∀ q, q < H.size → AX q → A0 q)
    (kx : ∀ (E : String) (ce : Cell) (q9 : Addr) (u : SX) (t : State) (H1 : Heap) (locs1 : List Loc), t.heap = H1 → s.vm.Alike t.vm → px u → BX E u t → H.size ≤ H1.size → (∀ q : Nat, q < H.size → ¬ AX q → H1[q]? = H[q]?) → va_S A0 H0 H1 locs1 → H1[q9]? = some ce → ce.vm = .none → s.vm.findClass E = some ce.cls → vx_W p l e R s m args below meth c H1 locs1 (cells + mc) (slots + ms) Q (F0 m pc ls rest) q9)
    (kk : ∀ (r : UInt64) (u : S) (t : State) (H1 : Heap) (locs1 : List Loc), t.heap = H1 → s.vm.Alike t.vm → post r u → B u t → H.size ≤ H1.size → (∀ q : Nat, q < H.size → ¬ A1 q → H1[q]? = H[q]?) → va_S A0 H0 H1 locs1 → W p l e R s m args below meth c H1 locs1 (cells + mc) (slots + ms) Q (F0 m (pc + 3) ls (.double r :: rest))) : W p l e R s m args below meth c H locs cells slots Q (F0 m pc ls st0) := by
  intro T hT X
  rcases hr T hT X with ⟨v, st₀, t, T', L, h0, X', hL, e1, e2, ⟨⟨r, u, hv, hp, hb⟩, hF⟩, st⟩ | ⟨q, st₀, t, T', L, E, ce, h0, X', hL, e1, e2, ⟨u, hp, hb, hF⟩, hce, hcv, hcl, st⟩
  · cases hv
    obtain ⟨k1, k2, k3⟩ := vx_keep h0 e1 hS hA hf hL hF
    obtain ⟨t2, a1, b1⟩ := kk r u t T'.heap (locs ++ L) e1.symm (by rw [← e2]; exact X'.warmed.alike) hp hb k1 k2 k3 T' rfl X'
    exact ⟨t2, st t2 a1, b1⟩
  · obtain ⟨k1, k2, k3⟩ := vx_keep h0 e1 hS hAX hf hL hF
    obtain ⟨t2, a1, b1⟩ := kx E ce q u t T'.heap (locs ++ L) e1.symm (by rw [← e2]; exact X'.warmed.alike) hp hb k1 k2 k3 (by rw [e1]; exact hce) hcv hcl T' rfl X'
    exact ⟨t2, st.trans a1, b1⟩
theorem vx_callv {S SX : Type} {post : S → Prop} {px : SX → Prop} {B : S → State → Prop} {BX : String → SX → State → Prop} {AX : Nat → Prop} (hr : vx_Run p l e R s m args below meth c H locs cells slots mc ms (F0 m pc ls st0) rest (va_Qv post B A1 a) (vx_X px BX AX) free) (hS : va_S A0 H0 H locs) (hA : ∀ q, q < H.size → A1 q → A0 q) (hf : ∀ q, free q → A0 q) (hAX : ∀ q, q < H.size → AX q → A0 q)
    (kx : ∀ (E : String) (ce : Cell) (q9 : Addr) (u : SX) (t : State) (H1 : Heap) (locs1 : List Loc), t.heap = H1 → s.vm.Alike t.vm → px u → BX E u t → H.size ≤ H1.size → (∀ q : Nat, q < H.size → ¬ AX q → H1[q]? = H[q]?) → va_S A0 H0 H1 locs1 → H1[q9]? = some ce → ce.vm = .none → s.vm.findClass E = some ce.cls → vx_W p l e R s m args below meth c H1 locs1 (cells + mc) (slots + ms) Q (F0 m pc ls rest) q9)
    (kk : ∀ (u : S) (t : State) (H1 : Heap) (locs1 : List Loc), t.heap = H1 → s.vm.Alike t.vm → post u → B u t → H.size ≤ H1.size → (∀ q : Nat, q < H.size → ¬ A1 q → H1[q]? = H[q]?) → va_S A0 H0 H1 locs1 → W p l e R s m args below meth c H1 locs1 (cells + mc) (slots + ms) Q (F0 m (pc + 3) ls (rest))) : W p l e R s m args below meth c H locs cells slots Q (F0 m pc ls st0) := by
  intro T hT X
  rcases hr T hT X with ⟨v, st₀, t, T', L, h0, X', hL, e1, e2, ⟨⟨u, hv, hp, hb⟩, hF⟩, st⟩ | ⟨q, st₀, t, T', L, E, ce, h0, X', hL, e1, e2, ⟨u, hp, hb, hF⟩, hce, hcv, hcl, st⟩
  · cases hv
    obtain ⟨k1, k2, k3⟩ := vx_keep h0 e1 hS hA hf hL hF
    obtain ⟨t2, a1, b1⟩ := kk u t T'.heap (locs ++ L) e1.symm (by rw [← e2]; exact X'.warmed.alike) hp hb k1 k2 k3 T' rfl X'
    exact ⟨t2, st t2 a1, b1⟩
  · obtain ⟨k1, k2, k3⟩ := vx_keep h0 e1 hS hAX hf hL hF
    obtain ⟨t2, a1, b1⟩ := kx E ce q u t T'.heap (locs ++ L) e1.symm (by rw [← e2]; exact X'.warmed.alike) hp hb k1 k2 k3 (by rw [e1]; exact hce) hcv hcl T' rfl X'
    exact ⟨t2, st.trans a1, b1⟩
/-- caught by the row x of this method's table; the rows ahead don't take it -/
theorem vx_catch {own name : String} {E : String} {ce : Cell} {q : Addr} (hown : s.vm.findClass own = some m.cls) (pre : List ExceptionTableEntry) (x : ExceptionTableEntry) (suf : List ExceptionTableEntry) (hsplit : c.exceptionTable.toList = pre ++ x :: suf)
    (hpass : ∀ z ∈ pre, covers z pc = false ∨ (z.catchType ≠ 0 ∧ ∃ nm : String, (Cond.classLink own z.catchType nm).before args s = true ∧ va_Nc E nm s)) (hx : covers x pc = true) (h0 : x.catchType ≠ 0)
    (hlink : (Cond.classLink own x.catchType name).before args s = true) (hcast : (Cond.castable E name).before args s = true) (hcell : H[q]? = some ce) (hv : ce.vm = .none) (hcl : s.vm.findClass E = some ce.cls)
    (kk : W p l e R s m args below meth c H locs cells slots Q (F0 m x.handlerPc ls [.ref q])) : vx_W p l e R s m args below meth c H locs cells slots Q (F0 m pc ls rest) q := by
  intro T hT X
  have hpl : e.platform.magicAccessors = ({} : Platform).magicAccessors := by rw [X.admits.platform]
  obtain ⟨c3, c4, hc3, hc4, hasg⟩ := Cond.castable_spec hcast
  cases Option.some.inj (hc3.symm.trans hcl)
  obtain ⟨c5, hc5, hcl5⟩ := Cond.classLink_spec hown hlink e.platform hpl
  cases Option.some.inj (hc4.symm.trans hc5)
  obtain ⟨vm', X', st⟩ := X.thenCaughtThrough q (g := F0 m pc ls rest) rfl (Steps.refl _) (by rw [hT]; exact hcell) (by rw [hv]; rfl) (by obtain ⟨k9, h9, -⟩ := Vm.findClass_spec hcl; exact ⟨k9, h9⟩) pre x suf hsplit
    (fun z hz => by
      rcases hpass z hz with h | ⟨hz0, nm, hl1, hn1⟩
      · exact Or.inl h
      · obtain ⟨c6, hc6, hcl6⟩ := Cond.classLink_spec hown hl1 e.platform hpl
        obtain ⟨a8, b8, h1, h2, h3⟩ := hn1
        cases Option.some.inj (h1.symm.trans hcl)
        cases Option.some.inj (h2.symm.trans hc6)
        exact Or.inr ⟨hz0, _, hcl6, h3⟩) hx (Or.inr ⟨h0, c4, hcl5, hasg⟩)
  obtain ⟨t, a1, b1⟩ := kk (T.setVm vm') hT X'
  exact ⟨t, st.trans a1, b1⟩
end Rows
section Ends
variable {p : Program} {l : Launch} {e : Env} {R : Room} {s : State} {m : MethodId} {args : Array Value} {below : List Frame} {meth : Method} {c : Code} {H : Heap} {locs : List Loc} {cells slots : Nat} {Q : State → Prop}
variable {mc ms : Nat} {free : Addr → Prop} {A0 A1 : Nat → Prop} {H0 : Heap} {a : Array Value} {ls : Array Slot} {st0 rest : List Value}
variable {Qc : Array Value → State → Outcome → State → Prop} {XC : String → State → State → Prop}
/-- what a body that may throw owes at its end -/
def vx_MQ (below : List Frame) (Qc : Array Value → State → Outcome → State → Prop) (XC : String → State → State → Prop) (a : Array Value) (s : State) (mc ms : Nat) (free : Addr → Prop) : State → Prop := fun t =>
  ∃ o, t.status = .running ∧ Ended t below o ∧ vx_Q Qc XC mc ms free a s o t
theorem vx_ret {g : JFrame} {mc ms : Nat} (k : W p l e R s m args below meth c H locs cells slots (MQ below Qc args s mc ms free) g) : W p l e R s m args below meth c H locs cells slots (vx_MQ below Qc XC args s mc ms free) g := by
  intro T hT X
  obtain ⟨t, a1, o, b1, b2, b3, b4⟩ := k T hT X
  exact ⟨t, a1, o, b1, b2, Or.inl ⟨b3, b4⟩⟩
/-- not caught here: it goes on to the caller -/
theorem vx_widen {g : JFrame} {q : Addr} {k n : Nat} (h1 : cells ≤ k) (h2 : slots ≤ n) (kk : vx_W p l e R s m args below meth c H locs k n Q g q) : vx_W p l e R s m args below meth c H locs cells slots Q g q := fun T hT X => kk T hT (stand_widen X h1 h2)
theorem vx_out {pc : Nat} {E : String} {ce : Cell} {q : Addr} {mc ms : Nat} (hout : ∀ x ∈ c.exceptionTable.toList, covers x pc = false) (hlocks : meth.locks = false) (hcell : H[q]? = some ce) (hv : ce.vm = .none) (hcl : s.vm.findClass E = some ce.cls)
    (hx : ∀ t : State, t.heap = H → s.vm.Alike t.vm → XC E s t) (hf : ∀ z ∈ locs, free z.base) (hc : cells ≤ mc) (hs : slots ≤ ms) :
    vx_W p l e R s m args below meth c H locs cells slots (vx_MQ below Qc XC args s mc ms free) (F0 m pc ls rest) q := by
  intro T hT X
  obtain ⟨st1, hrun, hend, hW, hsm⟩ := X.leaveThrown q (g := F0 m pc ls rest) rfl rfl rfl hout hlocks
  have hcell9 : (T.setFrames (.throwing q :: below)).heap[q]? = some ce := by
    show T.heap[q]? = some ce
    rw [hT]; exact hcell
  exact ⟨_, st1, .threw q, hrun, hend, Or.inr ⟨q, rfl, E, ce, locs, hx _ hT hW.alike, hcell9, hv, hcl, hW, hsm.mono hc hs, hf⟩⟩
theorem vx_frame {U : State} {k n : Nat} (h : s.sameButNew ({ U with vm := s.vm } : State) locs k n) : s.heap.size ≤ U.heap.size ∧ ∀ q : Nat, q < s.heap.size → (∀ z ∈ locs, z.base ≠ q) → U.heap[q]? = s.heap[q]? := by
  obtain ⟨-, h2, -, -, -, h6⟩ := h
  refine ⟨h2, fun q hq hz => ?_⟩
  obtain ⟨c9, e1, e2, e3, e4⟩ := h6 q _ (Array.getElem?_eq_getElem hq)
  have hs : c9.slots = (s.heap[q]).slots := Array.ext_getElem? fun i => e4 i fun hm => hz _ hm rfl
  have h9 : c9 = s.heap[q] := by
    rw [hs] at e2
    exact e2
  have e5 : U.heap[q]? = some c9 := e1
  rw [e5, h9, Array.getElem?_eq_getElem hq]
/-- the words of a throw but the four that speak of the heap -/
def vx_no (w : Cond) : Bool := decide (w ≠ .isRef (.static Bundle.tN "UNASSIGNED_STACK" Bundle.steD)) && decide (w ≠ .isRef (.static Bundle.tN "SUPPRESSED_SENTINEL" Bundle.listD)) && decide (w ≠ .laysStatic Bundle.tN "UNASSIGNED_STACK" Bundle.steD) && decide (w ≠ .laysStatic Bundle.tN "SUPPRESSED_SENTINEL" Bundle.listD)
def vx_at0 (own : String) (ic : Nat) (X : String) (names : List String) : List Cond := (Bundle.ownAtoms0 own ic X names).filter vx_no
def vx_atS (own : String) (ic : Nat) (X : String) (names : List String) : List Cond := (Bundle.ownAtoms own ic X names).filter vx_no
/-- a word that the tables alone decide, or a good one -/
def vx_ot (w : Cond) : Bool := w.onTables || goodWord w
theorem vx_ot_at {args a' : Array Value} {s U : State} {w : Cond} (hW : s.WarmedH U.vm) (hvm : s.vm = U.vm) (hg : vx_ot w = true) (h : w.before args s = true) : w.before a' U = true := by
  simp only [vx_ot, Bool.or_eq_true] at hg
  rcases hg with hg | hg
  · exact va_tabs hg hvm h
  · exact word_at hW (good_of_word hg) h
/-- a list's words: the good ones out of the method's own list, the others by premises of their own -/
theorem vx_hat {args : Array Value} {s : State} {L B : List Cond} (h1 : ∀ w ∈ L.filter goodWord, w.before args s = true) (h2 : ∀ w ∈ L.filter (fun w => !goodWord w), w ∈ B) (h3 : ∀ w ∈ B, w.before args s = true) : ∀ w ∈ L, w.before args s = true := by
  intro w hw
  by_cases g : goodWord w = true
  · exact h1 w (List.mem_filter.mpr ⟨hw, g⟩)
  · refine h3 w (h2 w (List.mem_filter.mpr ⟨hw, ?_⟩))
    show (!goodWord w) = true
    cases hgw : goodWord w
    · rfl
    · exact absurd hgw g
theorem vx_c {args : Array Value} {s : State} {w : Cond} {B : List Cond} (h : w.before args s = true) (t : ∀ w ∈ B, w.before args s = true) : ∀ w' ∈ w :: B, w'.before args s = true := fun w' h' => (List.mem_cons.mp h').elim (fun e => by rw [e]; exact h) (t w')
theorem vx_n {args : Array Value} {s : State} : ∀ w ∈ ([] : List Cond), w.before args s = true := fun _ h => nomatch h
theorem vx_own {args : Array Value} {s : State} {L : List Cond} (h1 : ∀ w ∈ L.filter vx_no, w.before args s = true)
    (hU : (Cond.isRef (.static Bundle.tN "UNASSIGNED_STACK" Bundle.steD)).before args s = true) (hN : (Cond.isRef (.static Bundle.tN "SUPPRESSED_SENTINEL" Bundle.listD)).before args s = true)
    (lU : (Cond.laysStatic Bundle.tN "UNASSIGNED_STACK" Bundle.steD).before args s = true) (lN : (Cond.laysStatic Bundle.tN "SUPPRESSED_SENTINEL" Bundle.listD).before args s = true) : ∀ w ∈ L, w.before args s = true := by
  intro w hw
  by_cases e1 : w = .isRef (.static Bundle.tN "UNASSIGNED_STACK" Bundle.steD)
  · rw [e1]; exact hU
  · by_cases e2 : w = .isRef (.static Bundle.tN "SUPPRESSED_SENTINEL" Bundle.listD)
    · rw [e2]; exact hN
    · by_cases e3 : w = .laysStatic Bundle.tN "UNASSIGNED_STACK" Bundle.steD
      · rw [e3]; exact lU
      · by_cases e4 : w = .laysStatic Bundle.tN "SUPPRESSED_SENTINEL" Bundle.listD
        · rw [e4]; exact lN
        · exact h1 w (List.mem_filter.mpr ⟨hw, by unfold vx_no; rw [decide_eq_true e1, decide_eq_true e2, decide_eq_true e3, decide_eq_true e4]; rfl⟩)
/-- where a static field lies, its class's statics cell in H -/
def vx_L (C n d : String) (A : Nat → Prop) (U : State) (H : Heap) : Prop := ∃ (c : ClassId) (k : Class) (i : Nat) (f : Field) (a : Nat) (cell : Cell), U.vm.findClass C = some c ∧ U.fieldFound? C n d = some (c, k, i, f) ∧ f.isStatic = true ∧ k.statics = some a ∧ H[a]? = some cell ∧ cell.vm.isStatics = true ∧ cell.cls = c ∧ f.slot < cell.slots.size ∧ k.staticTypes[f.slot]? = some f.type ∧ ¬ A a
theorem vx_L.moved {C n d : String} {A : Nat → Prop} {u U : State} {H : Heap} (hvm : u.vm.Alike U.vm) (h : vx_L C n d A u H) : vx_L C n d A U H := by
  obtain ⟨c, k, i, f, a, cell, h1, h2, h3, h4, h5, h6, h7, h8, h9, h10⟩ := h
  obtain ⟨k', hi', he⟩ := State.fieldFound?_setVm hvm h2
  exact ⟨c, k', i, f, a, cell, by rw [hvm.findClass]; exact h1, hi', h3, by rw [he]; exact h4, h5, h6, h7, h8, by rw [he]; exact h9, h10⟩
theorem vx_L.kept {C n d : String} {A : Nat → Prop} {U : State} {H H1 : Heap} (h : vx_L C n d A U H) (hq : ∀ a : Nat, a < H.size → ¬ A a → H1[a]? = H[a]?) : vx_L C n d A U H1 := by
  obtain ⟨c, k, i, f, a, cell, h1, h2, h3, h4, h5, h6, h7, h8, h9, h10⟩ := h
  exact ⟨c, k, i, f, a, cell, h1, h2, h3, h4, by rw [hq a (Array.getElem?_eq_some_iff.mp h5).1 h10]; exact h5, h6, h7, h8, h9, h10⟩
theorem vx_L.narrow {C n d : String} {A B : Nat → Prop} {U : State} {H : Heap} (h : vx_L C n d A U H) (hAB : ∀ q, B q → A q) : vx_L C n d B U H := by
  obtain ⟨c, k, i, f, a, cell, h1, h2, h3, h4, h5, h6, h7, h8, h9, h10⟩ := h
  exact ⟨c, k, i, f, a, cell, h1, h2, h3, h4, h5, h6, h7, h8, h9, fun z => h10 (hAB _ z)⟩
theorem vx_L.word {C n d : String} {A : Nat → Prop} {s : State} {args : Array Value} (h : vx_L C n d A s s.heap) : (Cond.laysStatic C n d).before args s = true := by
  obtain ⟨c, k, i, f, a, cell, h1, h2, h3, h4, h5, h6, h7, h8, h9, -⟩ := h
  show (Cond.laysStatic C n d).holds args s none s [] = true
  exact Cond.laysStatic_of h1 h2 h3 h4 h5 h6 h7 h8 h9
/-- .. and what it holds: null or some reference -/
def vx_Zq (C n d : String) (A : Nat → Prop) (U : State) (H : Heap) : Prop := va_Zq C n d A U H ∧ vx_L C n d A U H
theorem vx_Zq.moved {C n d : String} {A : Nat → Prop} {u U : State} {H : Heap} (hvm : u.vm.Alike U.vm) (h : vx_Zq C n d A u H) : vx_Zq C n d A U H := ⟨va_Zq.moved hvm h.1, vx_L.moved hvm h.2⟩
theorem vx_Zq.kept {C n d : String} {A : Nat → Prop} {U : State} {H H1 : Heap} (h : vx_Zq C n d A U H) (hq : ∀ a : Nat, a < H.size → ¬ A a → H1[a]? = H[a]?) : vx_Zq C n d A U H1 := ⟨va_Zq.kept h.1 hq, vx_L.kept h.2 hq⟩
theorem vx_Zq.narrow {C n d : String} {A B : Nat → Prop} {U : State} {H : Heap} (h : vx_Zq C n d A U H) (hAB : ∀ q, B q → A q) : vx_Zq C n d B U H := ⟨va_Zq.narrow h.1 hAB, vx_L.narrow h.2 hAB⟩
theorem vx_Zqof {args : Array Value} {s : State} {C n d : String} {A : Nat → Prop} (hl : (Cond.laysStatic C n d).before args s = true) (hini : (Cond.initialized C).before args s = true) (h : (Cond.isRef (.static C n d)).before args s = true) (hA : ∀ a : Nat, a < s.heap.size → ¬ A a) : vx_Zq C n d A s s.heap := by
  refine ⟨va_Zqof hl hini h hA, ?_⟩
  obtain ⟨c, k, i, f, a, cell, h1, h2, h3, h4, h5, h6, h7, h8, h9⟩ := Cond.laysStatic_spec hl
  exact ⟨c, k, i, f, a, cell, h1, h2, h3, h4, h5, h6, h7, h8, h9, hA a (Array.getElem?_eq_some_iff.mp h5).1⟩
theorem vx_isRef {C n d : String} {v : Value} {A : Nat → Prop} {s : State} {args : Array Value} (h : va_Z C n d v A s s.heap) (hv : v.isRef = true) : (Cond.isRef (.static C n d)).before args s = true := by
  obtain ⟨cf, kf, fi, f, a, cell, h1, h2, h3, h4, h5, h6, h7, -⟩ := h
  have he : (Term.static C n d).eval args s none [] s = some v := by
    simp [Term.eval, State.fieldNamed?, h1, h2, h4, h5, h6, h7]
  simp only [Cond.before, Cond.holds, Cond.value, he]
  cases v <;> simp_all [Value.isRef]
theorem vx_isRefq {C n d : String} {A : Nat → Prop} {s : State} {args : Array Value} (h : va_Zq C n d A s s.heap) : (Cond.isRef (.static C n d)).before args s = true := by
  rcases h with h | ⟨t, h⟩
  · exact vx_isRef h rfl
  · exact vx_isRef h rfl
/-- the same frame, seen from here: as if the method were called anew in this heap -/
theorem vx_rebase {T : State} (X : Stand p l e R s m args below meth c T locs cells slots) {R' : Room} (hf : R'.frames ≤ R.frames) (hl : R'.locals ≤ R.locals) (hc : cells + R'.cells ≤ R.cells) (hs : slots + R'.slots ≤ R.slots) :
    Stand p l e R' ((T.setVm s.vm).setFrames (.invoking m args :: below)) m args below meth c T [] 0 0 := by
  have htop : (T.setVm s.vm).topJava?.isSome := X.here.top
  have hF : ((T.setVm s.vm).setFrames (.invoking m args :: below)).frames = .invoking m args :: below := State.frames_setFrames _ (State.cur_lt_of_top htop)
  obtain ⟨g₀, hg0⟩ := Option.isSome_iff_exists.mp htop
  obtain ⟨r, hr⟩ := State.topJava?_eq_some.mp hg0
  have hl9 : e.platform.stackLimits (T.setVm s.vm).me = e.platform.stackLimits s.me := X.limits
  have hb9 : (T.setVm s.vm).me.stackBytes = s.me.stackBytes := X.bytes
  refine ⟨X.admits, X.cas, X.clock, hF, ?_, X.hears, X.method, X.code, X.here, X.tail, X.warmed, ?_, ?_, ?_⟩
  · have h := X.room
    have hU : ((T.setVm s.vm).setFrames (.invoking m args :: below)).localsInUse = s.localsInUse := by
      rw [State.localsInUse_invoking hF (meth := meth) (c := c) X.method X.code, State.localsInUse_invoking X.frames X.method X.code]
    simp only [State.hasRoom, Bool.and_eq_true, decide_eq_true_eq] at h ⊢
    obtain ⟨⟨⟨⟨h1, h2, h3, h4, h5, h6⟩, h7⟩, h8⟩, h9⟩ := h
    rw [X.frames, List.length_cons] at h2 h3
    have q1 := X.heapSize
    have q2 := X.used
    simp only [hF, hU, List.length_cons, State.stackLimits_setFrames, State.stackBytes_setFrames, hl9, hb9]
    refine ⟨⟨⟨⟨by omega, by omega, by omega, by omega, by omega, h6⟩, ?_⟩, ?_⟩, X.book⟩
    · show T.heap.size + R'.cells ≤ e.platform.maxCells
      omega
    · show T.slotsUsed + R'.slots ≤ e.platform.maxSlots
      omega
  · rw [State.stackLimits_setFrames]; rfl
  · rw [State.stackBytes_setFrames]; rfl
  · refine ⟨?_, Nat.le_refl _, Nat.le_refl _, ?_, ?_, fun a c9 h9 => ⟨c9, h9, rfl, rfl, fun _ _ => rfl⟩⟩
    · obtain ⟨t, ht, -⟩ := State.frames_cons hr
      show T.setVm s.vm = { ((T.setVm s.vm).setFrames (.invoking m args :: below)).setFrames (T.setVm s.vm).frames with heap := T.heap, slotsUsed := T.slotsUsed }
      rw [State.setFrames_setFrames, State.setFrames_self ht]
      rfl
    · show T.slotsUsed = T.slotsUsed + ((T.heap.toList.drop T.heap.size).map (·.slots.size)).sum
      rw [List.drop_eq_nil_of_le (Nat.le_of_eq Array.length_toList)]
      rfl
    · show ((T.heap.toList.drop T.heap.size).map (·.slots.size)).sum ≤ 0
      rw [List.drop_eq_nil_of_le (Nat.le_of_eq Array.length_toList)]
      exact Nat.le_refl _
/-- 'throw new E()': new; dup; invokespecial; athrow -/
theorem vx_throw0 {cc : ByteArray} {pc : Nat} (hexec : p.tables.exec = Jvm.exec) (hb : c.code = cc) (hl : l.stackTraces = false) {own cls : String} {names : List String} {ik ic mc ms : Nat} {A : Nat → Prop}
    (hown : s.vm.findClass own = some m.cls) (hcls : Bundle.fit cls = true) (hnames : ∀ n ∈ names, Bundle.fit n = true)
    (hk : (Cond.classLink own ik cls).before args s = true) (hini : (Cond.initialized cls).before args s = true) (hat : ∀ w ∈ vx_at0 own ic cls names, w.before args s = true)
    (hgood : ∀ w ∈ Cond.classLink own ik cls :: Cond.initialized cls :: vx_at0 own ic cls names, vx_ot w = true)
    (hU : vx_Zq Bundle.tN "UNASSIGNED_STACK" Bundle.steD A s s.heap) (hN : vx_Zq Bundle.tN "SUPPRESSED_SENTINEL" Bundle.listD A s s.heap) (hS : va_S A s.heap H locs) (hsize : ls.size = c.maxLocals)
    (d0 : decode cc pc = .ok (.new ik, 3)) (d3 : decode cc (pc + 3) = .ok (.dup, 1)) (d4 : decode cc (pc + 4) = .ok (.invokespecial ic, 3)) (d7 : decode cc (pc + 7) = .ok (.athrow, 1))
    (hout : ∀ x ∈ c.exceptionTable.toList, covers x (pc + 7) = false)
    (hRframes : names.length + 3 < R.frames) (hRlocals : (rest.map fun v => v.category).sum + (13 * (names.length + 1) + 42) ≤ R.locals) (hRcells : cells + 1 ≤ R.cells) (hRslots : slots + 6 ≤ R.slots) (hlocks : meth.locks = false)
    (hx : ∀ t : State, s.vm.Alike t.vm → H.size ≤ t.heap.size → (∀ q : Nat, q < H.size → t.heap[q]? = H[q]?) → XC cls s t)
    (hf : ∀ z ∈ locs, free z.base) (hc : cells + 1 ≤ mc) (hs : slots + 6 ≤ ms) :
    W p l e R s m args below meth c H locs cells slots (vx_MQ below Qc XC args s mc ms free) (F0 m pc ls rest) := by
  intro T hT X
  have htr : e.platform.stackTraces = false := (show e.platform.stackTraces = l.stackTraces by rw [X.admits.platform]).trans hl
  have Y := vx_rebase X (R' := { frames := R.frames, locals := R.locals, cells := 1, slots := 6 }) (Nat.le_refl _) (Nat.le_refl _) hRcells hRslots
  obtain ⟨s', hA⟩ : ∃ z, z = (T.setVm s.vm).setFrames (.invoking m args :: below) := ⟨_, rfl⟩
  rw [← hA] at Y
  have hvm : s'.vm = s.vm := by rw [hA]; rfl
  have hhp : s'.heap = H := by rw [hA]; exact hT
  have hW0 : s.WarmedH s'.vm := by rw [hvm]; exact State.WarmedH.refl s
  have hat' : ∀ w ∈ vx_at0 own ic cls names, w.before args s' = true := fun w hw => vx_ot_at hW0 hvm.symm (hgood w (List.mem_cons_of_mem _ (List.mem_cons_of_mem _ hw))) (hat w hw)
  have hk' : (Cond.classLink own ik cls).before args s' = true := vx_ot_at hW0 hvm.symm (hgood _ List.mem_cons_self) hk
  have hini' : (Cond.initialized cls).before args s' = true := vx_ot_at hW0 hvm.symm (hgood _ (List.mem_cons_of_mem _ List.mem_cons_self)) hini
  have hU' : vx_Zq Bundle.tN "UNASSIGNED_STACK" Bundle.steD A s' s'.heap := by rw [hhp]; exact vx_Zq.moved hW0.alike (hU.kept hS.2.1)
  have hN' : vx_Zq Bundle.tN "SUPPRESSED_SENTINEL" Bundle.listD A s' s'.heap := by rw [hhp]; exact vx_Zq.moved hW0.alike (hN.kept hS.2.1)
  have h : ∀ w ∈ Bundle.ownAtoms0 own ic cls names, w.before args s' = true := vx_own hat' (vx_isRefq hU'.1) (vx_isRefq hN'.1) hU'.2.word hN'.2.word
  have hown' : s'.vm.findClass own = some m.cls := by rw [hvm]; exact hown
  have hins : (Cond.instantiable cls 6).before args s' = true := h _ (by simp [Bundle.ownAtoms0])
  obtain ⟨vm₁, cX, kX, hfX, hkX, -, -, X₁, st1⟩ := Y.newCold hexec (own := own) (C := cls) (index := ik) (n := 6) hown' hk' hins hini'
    (g := F0 m pc ls rest) rfl (by rw [hb]; exact d0) (Nat.le_refl _) (Nat.le_refl _)
  generalize hT1 : (T.setVm vm₁).pushCell { cls := cX, slots := kX.instanceTypes.map defaultValue, vm := .none } = T1 at X₁ st1
  have hcat : (Value.ref T.heap.size).category = 1 := rfl
  have hcellA : T1.heap[T.heap.size]? = some (freshCell cX kX) := by rw [← hT1]; exact State.heap_pushCell_size _ _
  have d3' : decode c.code (pc + 3) = .ok (.dup, 1) := by rw [hb]; exact d3
  obtain ⟨U, hsteps, hrun, hend, hW, hsame, ce, hce, hO⟩ := X₁.ctorThrow0 hexec htr (own := own) (cls := cls) (names := names) (ic := ic) hown' hcls hnames h (fun x hx => nomatch hx) hfX hkX hcellA (by rw [hhp, hT]; exact Nat.le_refl _)
    (g := { method := m, pc := pc + 4, locals := ls, stack := .ref T.heap.size :: .ref T.heap.size :: rest, locked := none }) rfl hsize rfl rfl (rest := rest) rfl
    (by rw [hb]; exact d4) (by rw [hb]; exact d7) hout hRframes (by simp only [List.map_cons, List.sum_cons, hcat]; omega) hlocks
  obtain ⟨f1, f2⟩ := vx_frame hsame
  rw [hhp] at f1 f2
  have hWs : s.WarmedH U.vm := State.WarmedH.trans hW0 hW
  have hcl : s.vm.findClass cls = some ce.cls := by
    have h9 := hO.cls
    rw [hvm] at h9
    exact h9
  have hall : s.sameButNew ({ U with vm := s.vm } : State) locs mc ms := by
    subst hA
    obtain ⟨e1, e2⟩ := hsame
    rw [State.setFrames_setFrames] at e1
    have h2 : (T.setVm s.vm).sameButNew ({ U with vm := s.vm } : State) [] (0 + 1) (0 + 6) := ⟨e1, e2⟩
    have h3 := X.same.trans h2
    rw [List.append_nil] at h3
    exact h3.mono hc hs
  refine ⟨U, ?_, .threw T.heap.size, hrun, hend, Or.inr ⟨T.heap.size, rfl, cls, ce, locs, hx U hWs.alike f1 (fun q hq => f2 q hq (fun z hz => nomatch hz)), hce, hO.vm, hcl, hWs, hall, hf⟩⟩
  refine st1 _ ?_
  show Steps p.tables e below (T1.setTop { method := m, pc := pc + 3, locals := ls, stack := .ref T.heap.size :: rest, locked := none }) _
  jvm_step X₁.here [X₁.here.top, hexec, d3', Value.category]
  exact hsteps
/-- 'throw new E("text")': new; dup; ldc; invokespecial; athrow -/
theorem vx_throwS {cc : ByteArray} {pc : Nat} (hexec : p.tables.exec = Jvm.exec) (hb : c.code = cc) (hl : l.stackTraces = false) {own cls text : String} {names : List String} {ik is ic mc ms sa : Nat} {A : Nat → Prop}
    (hown : s.vm.findClass own = some m.cls) (hcls : Bundle.fit cls = true) (hnames : ∀ n ∈ names, Bundle.fit n = true)
    (hk : (Cond.classLink own ik cls).before args s = true) (hini : (Cond.initialized cls).before args s = true) (hstr : vk_R own is text sa s) (hat : ∀ w ∈ vx_atS own ic cls names, w.before args s = true)
    (hgood : ∀ w ∈ Cond.classLink own ik cls :: Cond.initialized cls :: vx_atS own ic cls names, vx_ot w = true)
    (hU : vx_Zq Bundle.tN "UNASSIGNED_STACK" Bundle.steD A s s.heap) (hN : vx_Zq Bundle.tN "SUPPRESSED_SENTINEL" Bundle.listD A s s.heap) (hS : va_S A s.heap H locs) (hsize : ls.size = c.maxLocals)
    (d0 : decode cc pc = .ok (.new ik, 3)) (d3 : decode cc (pc + 3) = .ok (.dup, 1)) (d4 : decode cc (pc + 4) = .ok (.ldc is, 2)) (d6 : decode cc (pc + 6) = .ok (.invokespecial ic, 3)) (d9 : decode cc (pc + 9) = .ok (.athrow, 1))
    (hout : ∀ x ∈ c.exceptionTable.toList, covers x (pc + 9) = false)
    (hRframes : names.length + 3 < R.frames) (hRlocals : (rest.map fun v => v.category).sum + (13 * (names.length + 1) + 43) ≤ R.locals) (hRcells : cells + 1 ≤ R.cells) (hRslots : slots + 6 ≤ R.slots) (hlocks : meth.locks = false)
    (hx : ∀ t : State, s.vm.Alike t.vm → H.size ≤ t.heap.size → (∀ q : Nat, q < H.size → t.heap[q]? = H[q]?) → XC cls s t)
    (hf : ∀ z ∈ locs, free z.base) (hc : cells + 1 ≤ mc) (hs : slots + 6 ≤ ms) :
    W p l e R s m args below meth c H locs cells slots (vx_MQ below Qc XC args s mc ms free) (F0 m pc ls rest) := by
  intro T hT X
  have htr : e.platform.stackTraces = false := (show e.platform.stackTraces = l.stackTraces by rw [X.admits.platform]).trans hl
  have Y := vx_rebase X (R' := { frames := R.frames, locals := R.locals, cells := 1, slots := 6 }) (Nat.le_refl _) (Nat.le_refl _) hRcells hRslots
  obtain ⟨s', hA⟩ : ∃ z, z = (T.setVm s.vm).setFrames (.invoking m args :: below) := ⟨_, rfl⟩
  rw [← hA] at Y
  have hvm : s'.vm = s.vm := by rw [hA]; rfl
  have hhp : s'.heap = H := by rw [hA]; exact hT
  have hW0 : s.WarmedH s'.vm := by rw [hvm]; exact State.WarmedH.refl s
  have hat' : ∀ w ∈ vx_atS own ic cls names, w.before args s' = true := fun w hw => vx_ot_at hW0 hvm.symm (hgood w (List.mem_cons_of_mem _ (List.mem_cons_of_mem _ hw))) (hat w hw)
  have hk' : (Cond.classLink own ik cls).before args s' = true := vx_ot_at hW0 hvm.symm (hgood _ List.mem_cons_self) hk
  have hini' : (Cond.initialized cls).before args s' = true := vx_ot_at hW0 hvm.symm (hgood _ (List.mem_cons_of_mem _ List.mem_cons_self)) hini
  have hU' : vx_Zq Bundle.tN "UNASSIGNED_STACK" Bundle.steD A s' s'.heap := by rw [hhp]; exact vx_Zq.moved hW0.alike (hU.kept hS.2.1)
  have hN' : vx_Zq Bundle.tN "SUPPRESSED_SENTINEL" Bundle.listD A s' s'.heap := by rw [hhp]; exact vx_Zq.moved hW0.alike (hN.kept hS.2.1)
  have h : ∀ w ∈ Bundle.ownAtoms own ic cls names, w.before args s' = true := vx_own hat' (vx_isRefq hU'.1) (vx_isRefq hN'.1) hU'.2.word hN'.2.word
  have hown' : s'.vm.findClass own = some m.cls := by rw [hvm]; exact hown
  have hins : (Cond.instantiable cls 6).before args s' = true := h _ (by simp [Bundle.ownAtoms])
  obtain ⟨vm₁, cX, kX, hfX, hkX, -, -, X₁, st1⟩ := Y.newCold hexec (own := own) (C := cls) (index := ik) (n := 6) hown' hk' hins hini'
    (g := F0 m pc ls rest) rfl (by rw [hb]; exact d0) (Nat.le_refl _) (Nat.le_refl _)
  generalize hT1 : (T.setVm vm₁).pushCell { cls := cX, slots := kX.instanceTypes.map defaultValue, vm := .none } = T1 at X₁ st1
  have hcat : (Value.ref T.heap.size).category = 1 := rfl
  have hcellA : T1.heap[T.heap.size]? = some (freshCell cX kX) := by rw [← hT1]; exact State.heap_pushCell_size _ _
  have d3' : decode c.code (pc + 3) = .ok (.dup, 1) := by rw [hb]; exact d3
  have d4' : decode c.code (pc + 4) = .ok (.ldc is, 2) := by rw [hb]; exact d4
  have hstr' : vk_R own is text sa s' := vk_R.warm hW0 hstr
  obtain ⟨U, hsteps, hrun, hend, hW, hsame, ce, hce, hO⟩ := X₁.ctorThrowS hexec htr (own := own) (cls := cls) (names := names) (ic := ic) hown' hcls hnames h (fun x hx => nomatch hx) hfX hkX hcellA (by rw [hhp, hT]; exact Nat.le_refl _) (msg := .ref sa) rfl
    (g := { method := m, pc := pc + 6, locals := ls, stack := .ref sa :: .ref T.heap.size :: .ref T.heap.size :: rest, locked := none }) rfl hsize rfl rfl (rest := rest) rfl
    (by rw [hb]; exact d6) (by rw [hb]; exact d9) hout hRframes (by simp only [List.map_cons, List.sum_cons, hcat]; omega) hlocks
  obtain ⟨f1, f2⟩ := vx_frame hsame
  rw [hhp] at f1 f2
  have hWs : s.WarmedH U.vm := State.WarmedH.trans hW0 hW
  have hcl : s.vm.findClass cls = some ce.cls := by
    have h9 := hO.cls
    rw [hvm] at h9
    exact h9
  have hall : s.sameButNew ({ U with vm := s.vm } : State) locs mc ms := by
    subst hA
    obtain ⟨e1, e2⟩ := hsame
    rw [State.setFrames_setFrames] at e1
    have h2 : (T.setVm s.vm).sameButNew ({ U with vm := s.vm } : State) [] (0 + 1) (0 + 6) := ⟨e1, e2⟩
    have h3 := X.same.trans h2
    rw [List.append_nil] at h3
    exact h3.mono hc hs
  refine ⟨U, ?_, .threw T.heap.size, hrun, hend, Or.inr ⟨T.heap.size, rfl, cls, ce, locs, hx U hWs.alike f1 (fun q hq => f2 q hq (fun z hz => nomatch hz)), hce, hO.vm, hcl, hWs, hall, hf⟩⟩
  refine st1 _ ?_
  show Steps p.tables e below (T1.setTop { method := m, pc := pc + 3, locals := ls, stack := .ref T.heap.size :: rest, locked := none }) _
  jvm_step X₁.here [X₁.here.top, hexec, d3', Value.category]
  exact X₁.ldcString hexec (own := own) (text := text) (index := is) (a := sa) hown' hstr'.1 hstr'.2
    (g := { method := m, pc := pc + 4, locals := ls, stack := .ref T.heap.size :: .ref T.heap.size :: rest, locked := none }) rfl d4' _ hsteps
/-- 'throw new E("text")', the text by a wide index -/
theorem vx_throwSW {cc : ByteArray} {pc : Nat} (hexec : p.tables.exec = Jvm.exec) (hb : c.code = cc) (hl : l.stackTraces = false) {own cls text : String} {names : List String} {ik is ic mc ms sa : Nat} {A : Nat → Prop}
    (hown : s.vm.findClass own = some m.cls) (hcls : Bundle.fit cls = true) (hnames : ∀ n ∈ names, Bundle.fit n = true)
    (hk : (Cond.classLink own ik cls).before args s = true) (hini : (Cond.initialized cls).before args s = true) (hstr : vk_R own is text sa s) (hat : ∀ w ∈ vx_atS own ic cls names, w.before args s = true)
    (hgood : ∀ w ∈ Cond.classLink own ik cls :: Cond.initialized cls :: vx_atS own ic cls names, vx_ot w = true)
    (hU : vx_Zq Bundle.tN "UNASSIGNED_STACK" Bundle.steD A s s.heap) (hN : vx_Zq Bundle.tN "SUPPRESSED_SENTINEL" Bundle.listD A s s.heap) (hS : va_S A s.heap H locs) (hsize : ls.size = c.maxLocals)
    (d0 : decode cc pc = .ok (.new ik, 3)) (d3 : decode cc (pc + 3) = .ok (.dup, 1)) (d4 : decode cc (pc + 4) = .ok (.ldc_w is, 3)) (d7 : decode cc (pc + 7) = .ok (.invokespecial ic, 3)) (d10 : decode cc (pc + 10) = .ok (.athrow, 1))
    (hout : ∀ x ∈ c.exceptionTable.toList, covers x (pc + 10) = false)
    (hRframes : names.length + 3 < R.frames) (hRlocals : (rest.map fun v => v.category).sum + (13 * (names.length + 1) + 43) ≤ R.locals) (hRcells : cells + 1 ≤ R.cells) (hRslots : slots + 6 ≤ R.slots) (hlocks : meth.locks = false)
    (hx : ∀ t : State, s.vm.Alike t.vm → H.size ≤ t.heap.size → (∀ q : Nat, q < H.size → t.heap[q]? = H[q]?) → XC cls s t)
    (hf : ∀ z ∈ locs, free z.base) (hc : cells + 1 ≤ mc) (hs : slots + 6 ≤ ms) :
    W p l e R s m args below meth c H locs cells slots (vx_MQ below Qc XC args s mc ms free) (F0 m pc ls rest) := by
  intro T hT X
  have htr : e.platform.stackTraces = false := (show e.platform.stackTraces = l.stackTraces by rw [X.admits.platform]).trans hl
  have Y := vx_rebase X (R' := { frames := R.frames, locals := R.locals, cells := 1, slots := 6 }) (Nat.le_refl _) (Nat.le_refl _) hRcells hRslots
  obtain ⟨s', hA⟩ : ∃ z, z = (T.setVm s.vm).setFrames (.invoking m args :: below) := ⟨_, rfl⟩
  rw [← hA] at Y
  have hvm : s'.vm = s.vm := by rw [hA]; rfl
  have hhp : s'.heap = H := by rw [hA]; exact hT
  have hW0 : s.WarmedH s'.vm := by rw [hvm]; exact State.WarmedH.refl s
  have hat' : ∀ w ∈ vx_atS own ic cls names, w.before args s' = true := fun w hw => vx_ot_at hW0 hvm.symm (hgood w (List.mem_cons_of_mem _ (List.mem_cons_of_mem _ hw))) (hat w hw)
  have hk' : (Cond.classLink own ik cls).before args s' = true := vx_ot_at hW0 hvm.symm (hgood _ List.mem_cons_self) hk
  have hini' : (Cond.initialized cls).before args s' = true := vx_ot_at hW0 hvm.symm (hgood _ (List.mem_cons_of_mem _ List.mem_cons_self)) hini
  have hU' : vx_Zq Bundle.tN "UNASSIGNED_STACK" Bundle.steD A s' s'.heap := by rw [hhp]; exact vx_Zq.moved hW0.alike (hU.kept hS.2.1)
  have hN' : vx_Zq Bundle.tN "SUPPRESSED_SENTINEL" Bundle.listD A s' s'.heap := by rw [hhp]; exact vx_Zq.moved hW0.alike (hN.kept hS.2.1)
  have h : ∀ w ∈ Bundle.ownAtoms own ic cls names, w.before args s' = true := vx_own hat' (vx_isRefq hU'.1) (vx_isRefq hN'.1) hU'.2.word hN'.2.word
  have hown' : s'.vm.findClass own = some m.cls := by rw [hvm]; exact hown
  have hins : (Cond.instantiable cls 6).before args s' = true := h _ (by simp [Bundle.ownAtoms])
  obtain ⟨vm₁, cX, kX, hfX, hkX, -, -, X₁, st1⟩ := Y.newCold hexec (own := own) (C := cls) (index := ik) (n := 6) hown' hk' hins hini'
    (g := F0 m pc ls rest) rfl (by rw [hb]; exact d0) (Nat.le_refl _) (Nat.le_refl _)
  generalize hT1 : (T.setVm vm₁).pushCell { cls := cX, slots := kX.instanceTypes.map defaultValue, vm := .none } = T1 at X₁ st1
  have hcat : (Value.ref T.heap.size).category = 1 := rfl
  have hcellA : T1.heap[T.heap.size]? = some (freshCell cX kX) := by rw [← hT1]; exact State.heap_pushCell_size _ _
  have d3' : decode c.code (pc + 3) = .ok (.dup, 1) := by rw [hb]; exact d3
  have d4' : decode c.code (pc + 4) = .ok (.ldc_w is, 3) := by rw [hb]; exact d4
  have hstr' : vk_R own is text sa s' := vk_R.warm hW0 hstr
  obtain ⟨U, hsteps, hrun, hend, hW, hsame, ce, hce, hO⟩ := X₁.ctorThrowS hexec htr (own := own) (cls := cls) (names := names) (ic := ic) hown' hcls hnames h (fun x hx => nomatch hx) hfX hkX hcellA (by rw [hhp, hT]; exact Nat.le_refl _) (msg := .ref sa) rfl
    (g := { method := m, pc := pc + 7, locals := ls, stack := .ref sa :: .ref T.heap.size :: .ref T.heap.size :: rest, locked := none }) rfl hsize rfl rfl (rest := rest) rfl
    (by rw [hb]; exact d7) (by rw [hb]; exact d10) hout hRframes (by simp only [List.map_cons, List.sum_cons, hcat]; omega) hlocks
  obtain ⟨f1, f2⟩ := vx_frame hsame
  rw [hhp] at f1 f2
  have hWs : s.WarmedH U.vm := State.WarmedH.trans hW0 hW
  have hcl : s.vm.findClass cls = some ce.cls := by
    have h9 := hO.cls
    rw [hvm] at h9
    exact h9
  have hall : s.sameButNew ({ U with vm := s.vm } : State) locs mc ms := by
    subst hA
    obtain ⟨e1, e2⟩ := hsame
    rw [State.setFrames_setFrames] at e1
    have h2 : (T.setVm s.vm).sameButNew ({ U with vm := s.vm } : State) [] (0 + 1) (0 + 6) := ⟨e1, e2⟩
    have h3 := X.same.trans h2
    rw [List.append_nil] at h3
    exact h3.mono hc hs
  refine ⟨U, ?_, .threw T.heap.size, hrun, hend, Or.inr ⟨T.heap.size, rfl, cls, ce, locs, hx U hWs.alike f1 (fun q hq => f2 q hq (fun z hz => nomatch hz)), hce, hO.vm, hcl, hWs, hall, hf⟩⟩
  refine st1 _ ?_
  show Steps p.tables e below (T1.setTop { method := m, pc := pc + 3, locals := ls, stack := .ref T.heap.size :: rest, locked := none }) _
  jvm_step X₁.here [X₁.here.top, hexec, d3', Value.category]
  exact X₁.ldcStringW hexec (own := own) (text := text) (index := is) (a := sa) hown' hstr'.1 hstr'.2
    (g := { method := m, pc := pc + 4, locals := ls, stack := .ref T.heap.size :: .ref T.heap.size :: rest, locked := none }) rfl d4' _ hsteps
end Ends
section Bodies
variable {l : Launch}
theorem vx_ofW {y : MethodName} {ws ws' : List Cond} {rm : Room} {Pc : Array Value → State → Prop} {Qc : Array Value → State → Outcome → State → Prop} {XC : String → State → State → Prop} {mc ms : Nat} {free : Addr → Prop} {cc : ByteArray} {maxL : Nat} {ret : Option FieldType}
    (hy : plainName y.cls = true) (hw : ws = Cond.code y cc maxL ret :: ws')
    (body : ∀ p e s m args below meth c s₁, BodyLoose p l y (headSpec ws rm) cc maxL ret e s m args below meth c s₁ → c.maxLocals = maxL → (∀ x ∈ c.exceptionTable.toList, False) → Pc args s →
      W p l e (headSpec ws rm).room s m args below meth c s.heap [] 0 0 (vx_MQ below Qc XC args s mc ms free) (entryFrame m args maxL)) : vx_Met l y ws rm Pc Qc XC mc ms free := by
  refine MetFree.of_bodyS (code := cc) (maxLocals := maxL) (ret := ret) hy ?_ ?_
  · intro args s m h hn
    obtain ⟨meth, c, h1, h2, h3, h4, h5, h6, -, -⟩ := Cond.code_spec hn (atoms_spec (ws := ws) h _ (by rw [hw]; exact List.mem_cons_self))
    exact ⟨meth, c, h1, h2, h3, h4, h5, h6⟩
  · intro p e s m args below meth c s₁ B hml hP _
    have hh0 : s₁.heap = s.heap := by rw [B.state]; rfl
    have ht : ∀ x ∈ c.exceptionTable.toList, False := by
      obtain ⟨meth9, c9, h1, h2, -, -, -, -, h7, -⟩ := Cond.code_spec B.named (atoms_spec (ws := ws) B.pre _ (by rw [hw]; exact List.mem_cons_self))
      cases Option.some.inj (h1.symm.trans B.method)
      cases Option.some.inj (h2.symm.trans (Stand.of_body B).code)
      intro x hx
      rw [Array.isEmpty_iff.mp h7] at hx
      cases hx
    obtain ⟨t, a1, o, b1, b2, b3⟩ := body p e s m args below meth c s₁ B hml ht hP s₁ hh0 (Stand.of_body B)
    exact ⟨t, o, a1, b1, b2, b3⟩
/-- the table of a body with handlers -/
theorem vx_table {p : Program} {x y : MethodName} {S : Spec} {cc bytes : ByteArray} {maxL maxL' : Nat} {ret ret' : Option FieldType} {e : Env} {s s₁ : State} {m : MethodId} {args : Array Value} {below : List Frame} {meth : Method} {c : Code} {hh : List (Nat × Nat × Nat × Nat)}
    (B : BodyLoose p l y S cc maxL ret e s m args below meth c s₁) (h : (Cond.codeWith y bytes maxL' ret' hh).before args s = true) : c.exceptionTable.toList = tableOf hh := by
  obtain ⟨m9, meth9, c9, hn9, h1, h2, -, -, h6, -⟩ := Cond.codeWith_spec h
  cases Option.some.inj (hn9.symm.trans B.named)
  cases Option.some.inj (h1.symm.trans B.method)
  cases Option.some.inj (h2.symm.trans (Stand.of_body B).code)
  rw [← h6, table_eq]
end Bodies
end VXA
/-! ===== END ===== -/
/-! ===== BEGIN a static call of a method with an exception table ===== -/
section VXS
variable {p : Program} {l : Launch} {e : Env} {R : Room} {s : State} {m : MethodId} {args : Array Value} {below : List Frame} {meth : Method} {c : Code} {T : State} {H : Heap} {locs : List Loc} {cells slots : Nat}
abbrev vx_CSW (R : Room) (s : State) (args : Array Value) (own : String) (index : Nat) (y : MethodName) (bytes : ByteArray) (maxL : Nat) (ret : Option FieldType) (hh : List (Nat × Nat × Nat × Nat)) (ws : List Cond) (rm : Room) (mc ms n : Nat) : Prop :=
  (rm.cells = mc ∧ rm.slots = ms ∧ rm.frames + 1 ≤ R.frames ∧ 8 + (maxL + 11) + rm.locals ≤ R.locals ∧ (∀ w ∈ ws, ∀ (a' : Array Value) (U : State), s.WarmedH U.vm → w.before a' U = true) ∧ Cond.codeWith y bytes maxL ret hh ∈ ws) ∧
  (Cond.codeWith y bytes maxL ret hh).before args s = true ∧ (Cond.initialized y.cls).before args s = true ∧ (y.cls ≠ "java/lang/invoke/MethodHandle" ∧ y.cls ≠ "java/lang/invoke/VarHandle") ∧
  (∀ sig, parseMethodDescriptor y.desc = some sig → n = sig.parameters.length) ∧ (Cond.methodLink own index y).before args s = true ∧ (Cond.static y).before args s = true
theorem vx_cwSW {own : String} {index maxL mc ms : Nat} {y : MethodName} {bytes : ByteArray} {ret : Option FieldType} {hh : List (Nat × Nat × Nat × Nat)} {Ts ws ws' : List Cond} {rm : Room} (n : Nat) (ht : ∀ w ∈ Ts, w.before args s = true) (hT : GoodIn Ts (va_wsS own index y ws)) (hw : ws = Cond.codeWith y bytes maxL ret hh :: ws') (hrc : rm.cells = mc) (hrs : rm.slots = ms)
    (hd : y.cls ≠ "java/lang/invoke/MethodHandle" ∧ y.cls ≠ "java/lang/invoke/VarHandle" ∧ (parseMethodDescriptor y.desc).map (fun d => d.parameters.length) = some n) (hR : rm.frames + 1 ≤ R.frames ∧ 8 + (maxL + 11) + rm.locals ≤ R.locals) :
    vx_CSW R s args own index y bytes maxL ret hh ws rm mc ms n := by
  have ok : ∀ w ∈ va_wsS own index y ws, w.before args s = true := fun w h => ht w (hT w h).1
  have hG : GoodIn Ts ws := fun w h => hT w (by unfold va_wsS; exact List.mem_append_right _ h)
  have hc : Cond.codeWith y bytes maxL ret hh ∈ ws := by rw [hw]; exact List.mem_cons_self
  refine ⟨⟨hrc, hrs, hR.1, hR.2, pay_in ht hG, hc⟩, ht _ (hG _ hc).1, ok _ (by simp [va_wsS]), ⟨hd.1, hd.2.1⟩, fun sig h => ?_, ok _ (by simp [va_wsS]), ok _ (by simp [va_wsS])⟩
  have h2 := hd.2.2
  rw [h] at h2
  exact (Option.some.inj h2).symm
theorem vx_callSW (X : Stand p l e R s m args below meth c T locs cells slots) (hexec : p.tables.exec = Jvm.exec) {own : String} {index : Nat} {y : MethodName} {bytes : ByteArray} {maxL : Nat} {ret : Option FieldType} {hh : List (Nat × Nat × Nat × Nat)}
    (hown : s.vm.findClass own = some m.cls) (hlink : (Cond.methodLink own index y).before args s = true) (hstat : (Cond.static y).before args s = true) (hinit : (Cond.initialized y.cls).before args s = true)
    (hcode : (Cond.codeWith y bytes maxL ret hh).before args s = true) (hy : y.cls ≠ "java/lang/invoke/MethodHandle" ∧ y.cls ≠ "java/lang/invoke/VarHandle")
    {W9 : Nat} {Pre : Pt → Array Value → Prop} {Post : Pt → Array Value → Option Value → Pt → Prop} (hK : Back l R p e below s args y 3 W9 Pre Post)
    {g : JFrame} (hg : g.method = m) (hsize : g.locals.size = c.maxLocals) {argsL rest : List Value} (hlen : ∀ sig, parseMethodDescriptor y.desc = some sig → argsL.length = sig.parameters.length)
    (hstack : g.stack = argsL.reverse ++ rest) (hW : 2 * g.monitorRoom + (rest.map fun v => v.category).sum ≤ W9) (hdg : decode c.code g.pc = .ok (.invokestatic index, 3))
    (hpre : ∀ vm₁, s.WarmedH vm₁ → Pre ⟨T.setVm vm₁, locs, cells, slots⟩ argsL.toArray) :
    ∃ (v : Option Value) (vm₁ : Vm) (B : Pt), s.WarmedH vm₁ ∧ Stand p l e R s m args below meth c B.U B.locs B.cells B.slots ∧ Post ⟨T.setVm vm₁, locs, cells, slots⟩ argsL.toArray v B ∧
      ∀ target, Steps p.tables e below (B.U.setTop { g with pc := g.pc + 3, stack := v.toList ++ rest }) target → Steps p.tables e below (T.setTop g) target := by
  obtain ⟨mk, methM, cM, hnamed, hmethM, -, -, -, -, -, -, hsigM⟩ := Cond.codeWith_spec hcode
  have hstatic : methM.isStatic = true := Cond.static_spec hnamed hmethM hstat
  obtain ⟨kP, hkP, -⟩ := className_of_methodNamed hnamed
  have hinitP : kP.init = .initialized := Cond.initialized_spec (findClass_of_methodNamed hnamed) hkP hinit
  obtain ⟨vm₁, X₁, hstep₁⟩ := X.invokestatic hexec hown hlink hnamed hmethM hstatic hkP hinitP hy (g := g) hg (argsL := argsL) (rest := rest) (hlen _ hsigM) hstack hdg
  obtain ⟨v, B, X', hpost, hsteps⟩ := hK m meth c ⟨T.setVm vm₁, locs, cells, slots⟩ { g with stack := rest } (.invokestatic index) mk argsL.toArray X₁ hg hsize hdg hW (X₁.named hnamed) (hpre vm₁ X₁.warmed)
  exact ⟨v, vm₁, B, X₁.warmed, X', hpost, fun target h => hstep₁ _ fun acts => by rw [doInvoke_state]; exact hsteps.trans h⟩
theorem vx_runSW {y : MethodName} {bytes cc : ByteArray} {maxL nL mc ms n index : Nat} {ret : Option FieldType} {hh : List (Nat × Nat × Nat × Nat)} {ws : List Cond} {rm : Room} {Pc : Array Value → State → Prop} {Qc : Array Value → State → Outcome → State → Prop} {free : Addr → Prop} {Ts : List Cond} {own : String} {As rest : List Value} {g : JFrame}
    (S : CallFix p m c cc nL s args Ts own) (hM : Met l y ws rm Pc Qc mc ms free) (cw : vx_CSW R s args own index y bytes maxL ret hh ws rm mc ms n) (hp : PreS s H Pc As)
    (hg : g.method = m) (hn : As.length = n) (hsize : g.locals.size = nL) (hstack : g.stack = As.reverse ++ rest) (hW : 2 * g.monitorRoom + (rest.map fun v => v.category).sum ≤ 8) (hdg : decode cc g.pc = .ok (.invokestatic index, 3)) (hf : cells + mc ≤ R.cells ∧ slots + ms ≤ R.slots) :
    va_Run p l e R s m args below meth c H locs cells slots mc ms g rest (Qc As.toArray) (free) := by
  obtain ⟨⟨hrc, hrs, hfr, hlo, hws, hcw⟩, hcode, hini, hy, hlen, hl, hstt⟩ := cw
  have hK : Back l R p e below s args y 3 8 (PreOf R mc ms Pc) (PostOf Qc mc ms free) := va_backW (hh := hh) (bytes := bytes) (maxL := maxL) (ret := ret) hM hp.1 hrc hrs hfr hlo hws hcw (fun a' U hW => word_at hW (Or.inl (by first | rfl | simp [Cond.onTables, Cond.keeps, Cond.steady])) hini)
  obtain ⟨hx, hb, hml, ho, -⟩ := S
  intro T hT X
  obtain ⟨v, vm₁, ⟨U', l2, c2, s2⟩, hW₁, X', ⟨g', mk, t, L, e1, e2, hq, h1, hL, h2, h3⟩, st⟩ := vx_callSW X hx (hh := hh) (bytes := bytes) (maxL := maxL) (ret := ret) ho hl hstt hini hcode hy hK hg (hsize.trans hml.symm) (argsL := As) (rest := rest) (fun sig h => hn.trans (hlen sig h)) hstack hW (by rw [hb]; exact hdg)
    (fun vm₁ hW₁ => ⟨hf.1, hf.2, hp.2 (T.setVm vm₁) hT hW₁⟩)
  dsimp only [Pt.U, Pt.locs, Pt.cells, Pt.slots] at X' e1 e2 h1 h2 h3 st
  subst h1; subst h2; subst h3
  exact ⟨v, (T.setVm vm₁).calling g' mk As.toArray, t, U', L, hT, X', hL, e1, e2, hq, st⟩
/-- not caught here, past rows that name other classes: it goes on to the caller -/
theorem vx_outP {p : Program} {l : Launch} {e : Env} {R : Room} {s : State} {m : MethodId} {args : Array Value} {below : List Frame} {meth : Method} {c : Code} {H : Heap} {locs : List Loc} {cells slots : Nat} {free : Addr → Prop} {ls : Array Slot} {rest : List Value} {Qc : Array Value → State → Outcome → State → Prop} {XC : String → State → State → Prop}
    {pc : Nat} {own E : String} {ce : Cell} {q : Addr} {mc ms : Nat} (hown : s.vm.findClass own = some m.cls) (hlocks : meth.locks = false)
    (hpass : ∀ z ∈ c.exceptionTable.toList, covers z pc = false ∨ (z.catchType ≠ 0 ∧ ∃ nm : String, (Cond.classLink own z.catchType nm).before args s = true ∧ va_Nc E nm s)) (hcell : H[q]? = some ce) (hv : ce.vm = .none) (hcl : s.vm.findClass E = some ce.cls)
    (hx : ∀ t : State, t.heap = H → s.vm.Alike t.vm → XC E s t) (hf : ∀ z ∈ locs, free z.base) (hc : cells ≤ mc) (hs : slots ≤ ms) :
    vx_W p l e R s m args below meth c H locs cells slots (vx_MQ below Qc XC args s mc ms free) (F0 m pc ls rest) q := by
  intro T hT X
  have hpl : e.platform.magicAccessors = ({} : Platform).magicAccessors := by rw [X.admits.platform]
  obtain ⟨vm', hW', X', st⟩ := X.outThrough hlocks q (g := F0 m pc ls rest) rfl rfl rfl (cell := ce) (by rw [hT]; exact hcell) (by rw [hv]; rfl)
    (by obtain ⟨k9, h9, -⟩ := Vm.findClass_spec hcl; exact ⟨k9, h9⟩) (fun z hz => by
      rcases hpass z hz with h | ⟨hz0, nm, hl1, hn1⟩
      · exact Or.inl h
      · obtain ⟨c6, hc6, hcl6⟩ := Cond.classLink_spec hown hl1 e.platform hpl
        obtain ⟨a8, b8, h1, h2, h3⟩ := hn1
        cases Option.some.inj (h1.symm.trans hcl)
        cases Option.some.inj (h2.symm.trans hc6)
        exact Or.inr ⟨hz0, _, hcl6, h3⟩)
  obtain ⟨g₀, hfr⟩ := X'.frames_eq
  have hcell9 : ((T.setVm vm').setFrames (.throwing q :: below)).heap[q]? = some ce := by
    show T.heap[q]? = some ce
    rw [hT]; exact hcell
  have hend : Ended ((T.setVm vm').setFrames (.throwing q :: below)) below (.threw q) := State.frames_setFrames _ (State.cur_lt_of_frames hfr)
  refine ⟨(T.setVm vm').setFrames (.throwing q :: below), ?_, .threw q, X'.here.running, hend, Or.inr ⟨q, rfl, E, ce, locs, hx _ hT (X'.ends _).1.alike, hcell9, hv, hcl, (X'.ends _).1, (X'.ends _).2.mono hc hs, hf⟩⟩
  rw [X.pushThrowing_eq]
  exact st
/-- a thing of a world lies in the heap -/
theorem vx_lt {D : va_G} {cl : List vw_C} {ws : va_W} {H1 : Heap} (h : va_P D cl ws H1) {k : Nat} {q : Nat × va_E} (hk : ws[k]? = some q) : q.1 < H1.size := (h k q hk).lt
end VXS
/-! ===== END ===== -/
/-! ===== BEGIN methods with a table of their own: called by a name, returning or throwing ===== -/
section VXH
/-! vx_backW, vx_callVX, vx_callSX, vx_callVW, vx_runVW, vx_runVX, vx_runSX, vx_ofWH follow the same proofs as their sisters above (Free/Laws.lean, Shelf42/LK1.lean); vx_outP calls Shelf42/NT130.lean (outThrough). -/
section
variable {l : Launch} {R : Room} {p : Program} {e : Env} {below : List Frame} {s : State} {sargs : Array Value} {y : MethodName} {len W9 : Nat}
theorem vx_backW {ws : List Cond} {rm : Room} {Pc : Array Value → State → Prop} {Qc : Array Value → State → Outcome → State → Prop} {XC : String → State → State → Prop} {mc ms : Nat} {free : Addr → Prop} {bytes : ByteArray} {maxL : Nat} {ret : Option FieldType} {hh : List (Nat × Nat × Nat × Nat)}
    (hM : vx_Met l y ws rm Pc Qc XC mc ms free) (hblind : FrameBlind Pc) (hrc : rm.cells = mc) (hrs : rm.slots = ms)
    (hframes : rm.frames + 1 ≤ R.frames) (hlocals : W9 + (maxL + 11) + rm.locals ≤ R.locals)
    (hws : ∀ w ∈ ws, ∀ a' U, s.WarmedH U.vm → w.before a' U = true) (hcode : Cond.codeWith y bytes maxL ret hh ∈ ws) (hinit : ∀ a' U, s.WarmedH U.vm → (Cond.initialized y.cls).before a' U = true) :
    vx_Back l R p e below s sargs y len W9 (PreOf R mc ms Pc) (PostOf Qc mc ms free) (vx_Post XC mc ms free) := by
  intro m meth c A g ig mk a X hg hsize hdg hW hn hp
  have h1 : (headSpec ws rm).pre.before a A.U = true := atoms_intro fun w hw => hws w hw _ _ X.warmed
  have h2 : (Cond.codeWith y bytes maxL ret hh).before a A.U = true := hws _ hcode _ _ X.warmed
  have h3 : (Cond.initialized y.cls).before a A.U = true := hinit _ _ X.warmed
  have h4 : A.cells + (headSpec ws rm).room.cells ≤ R.cells := by rw [show (headSpec ws rm).room.cells = mc from hrc]; exact hp.1
  have h5 : A.slots + (headSpec ws rm).room.slots ≤ R.slots := by rw [show (headSpec ws rm).room.slots = ms from hrs]; exact hp.2.1
  have hPc : Pc a (A.U.calling g mk a) := hblind _ _ _ _ hp.2.2
  obtain ⟨U, Ls, c0, s0⟩ := A
  dsimp only [Pt.U, Pt.locs, Pt.cells, Pt.slots] at h1 h2 h3 h4 h5 X hn hPc ⊢
  obtain ⟨m9, methY, cY, hn9, hmY, hcY, -, hlY, -⟩ := Cond.codeWith_spec h2
  cases Option.some.inj (hn9.symm.trans hn)
  obtain ⟨kY, hkY, -⟩ := className_of_methodNamed hn
  have hinitY : kY.init = .initialized := Cond.initialized_spec (findClass_of_methodNamed hn) hkY h3
  have h : At U g.method c below := by rw [hg]; exact X.here
  have hlocals9 : W9 + (maxL + 11) + (headSpec ws rm).room.locals ≤ R.locals := hlocals
  have happ : (headSpec ws rm).appliesLoose y e.platform (U.calling g mk a) = true :=
    Spec.appliesLoose_calling (g := g) h hdg hn hkY hinitY
      (X.room_calling (g := g) (R' := (headSpec ws rm).room) hsize hmY hcY hframes (by rw [hlY]; omega) h4 h5) h1
  obtain ⟨mid, hmid⟩ := h.above
  have hfr : (U.setTop g).frames = (.java g :: mid) ++ below := by rw [State.frames_setTop' g h.top, hmid]; rfl
  obtain ⟨o, s₂, hsteps, -, hend, hq⟩ := Steps.callFree hM p X.admits X.cas X.clock (acts := []) hfr happ hPc trivial
  have hq' : vx_Q Qc XC mc ms free a (U.calling g mk a) o s₂ := hq
  rw [State.frames_setTop' g h.top] at hend
  obtain ⟨g₀, hg0⟩ := Option.isSome_iff_exists.mp h.top
  obtain ⟨r, hr⟩ := State.topJava?_eq_some.mp hg0
  have hr' : (({ U with heap := s₂.heap, slotsUsed := s₂.slotsUsed } : State).setVm s₂.vm).frames = .java g₀ :: r := hr
  rcases hq' with ⟨hqc, L, hfe, hL⟩ | ⟨q, rfl, E, ce, L, hx, hce, hcv, hcl, hW₂, hsm, hL⟩
  · obtain ⟨⟨v, rfl⟩, hW₂, e2, q2, q3, q4, q5, q6⟩ := id hfe
    have e3 : s₂ = ({ (U.calling g mk a).setFrames s₂.frames with heap := s₂.heap, slotsUsed := s₂.slotsUsed } : State).setVm s₂.vm := by
      have : s₂ = ({ s₂ with vm := (U.calling g mk a).vm } : State).setVm s₂.vm := rfl
      rw [e2] at this
      exact this
    obtain ⟨c₂, i₂, len₂, hc₂, hd₂, hf₂⟩ := hend
    have hW' : U.WarmedH s₂.vm := hW₂
    have hcc : c₂ = c := by
      have h1 : s₂.code? g.method = U.code? g.method := by
        rw [State.code?_eq, State.code?_eq, hW'.alike.method?]
      exact Option.some.inj (hc₂.symm.trans (h1.trans h.code))
    subst hcc
    have hlen : len₂ = len := by rw [hdg] at hd₂; cases hd₂; rfl
    subst hlen
    have hs₂ : s₂ = (({ U with heap := s₂.heap, slotsUsed := s₂.slotsUsed } : State).setVm s₂.vm).setTop { g with pc := g.pc + len₂, stack := v.toList ++ g.stack } := by
      refine e3.trans ?_
      rw [hf₂, State.calling_eq h.top, State.setFrames_setFrames, State.setTop_of_frames _ hr', hr]
      rfl
    have hsame : U.sameButNew ({ U with heap := s₂.heap, slotsUsed := s₂.slotsUsed } : State) L mc ms := by
      refine ⟨?_, q2, q3, q4, q5, q6⟩
      obtain ⟨t, ht, -⟩ := State.frames_cons hr
      show ({ U with heap := s₂.heap, slotsUsed := s₂.slotsUsed } : State) = { U.setFrames U.frames with heap := s₂.heap, slotsUsed := s₂.slotsUsed }
      rw [State.setFrames_self ht]
    subst hg
    refine Or.inl ⟨v, ⟨(({ U with heap := s₂.heap, slotsUsed := s₂.slotsUsed } : State).setVm s₂.vm), Ls ++ L, c0 + mc, s0 + ms⟩,
      ⟨X.admits, X.cas, X.clock, X.frames, X.room, X.hears, X.method, X.code, (X.here.setHeapUsed s₂.heap s₂.slotsUsed).setVm hW'.alike, X.tail, State.WarmedH.trans X.warmed hW', X.limits, X.bytes, X.same.trans (hsame.setVm s.vm)⟩,
      ⟨g, mk, s₂, L, rfl, rfl, hqc, rfl, hL, rfl, rfl⟩, ?_⟩
    show Steps p.tables e below _ ((({ U with heap := s₂.heap, slotsUsed := s₂.slotsUsed } : State).setVm s₂.vm).setTop { g with pc := g.pc + len₂, stack := v.toList ++ g.stack })
    rw [← hs₂]
    exact hsteps
  · obtain ⟨e2, q2, q3, q4, q5, q6⟩ := id hsm
    have e3 : s₂ = ({ (U.calling g mk a).setFrames s₂.frames with heap := s₂.heap, slotsUsed := s₂.slotsUsed } : State).setVm s₂.vm := by
      have : s₂ = ({ s₂ with vm := (U.calling g mk a).vm } : State).setVm s₂.vm := rfl
      rw [e2] at this
      exact this
    have hf₂ : s₂.frames = .throwing q :: .java g :: U.frames.tail := hend
    have hW' : U.WarmedH s₂.vm := hW₂
    have hs₂ : s₂ = ((({ U with heap := s₂.heap, slotsUsed := s₂.slotsUsed } : State).setVm s₂.vm).setTop g).pushFrame (.throwing q) := by
      refine e3.trans ?_
      rw [hf₂, State.calling_eq h.top, State.setFrames_setFrames, State.pushFrame, State.frames_setTop _ hr', State.setTop_of_frames _ hr', State.setFrames_setFrames, hr]
      rfl
    have hsame : U.sameButNew ({ U with heap := s₂.heap, slotsUsed := s₂.slotsUsed } : State) L mc ms := by
      refine ⟨?_, q2, q3, q4, q5, q6⟩
      obtain ⟨t, ht, -⟩ := State.frames_cons hr
      show ({ U with heap := s₂.heap, slotsUsed := s₂.slotsUsed } : State) = { U.setFrames U.frames with heap := s₂.heap, slotsUsed := s₂.slotsUsed }
      rw [State.setFrames_self ht]
    subst hg
    refine Or.inr ⟨q, ⟨(({ U with heap := s₂.heap, slotsUsed := s₂.slotsUsed } : State).setVm s₂.vm), Ls ++ L, c0 + mc, s0 + ms⟩,
      ⟨X.admits, X.cas, X.clock, X.frames, X.room, X.hears, X.method, X.code, (X.here.setHeapUsed s₂.heap s₂.slotsUsed).setVm hW'.alike, X.tail, State.WarmedH.trans X.warmed hW', X.limits, X.bytes, X.same.trans (hsame.setVm s.vm)⟩,
      ⟨g, mk, s₂, L, E, ce, rfl, rfl, hx, hce, hcv, hcl, rfl, hL, rfl, rfl⟩, ?_⟩
    show Steps p.tables e below _ (((({ U with heap := s₂.heap, slotsUsed := s₂.slotsUsed } : State).setVm s₂.vm).setTop g).pushFrame (.throwing q))
    rw [← hs₂]
    exact hsteps
end
variable {p : Program} {l : Launch} {e : Env} {R : Room} {s : State} {m : MethodId} {args : Array Value} {below : List Frame} {meth : Method} {c : Code} {T : State} {H : Heap} {locs : List Loc} {cells slots : Nat}
theorem vx_callVX (X : Stand p l e R s m args below meth c T locs cells slots) (hexec : p.tables.exec = Jvm.exec) {own C : String} {index : Nat} {y : MethodName} {bytes : ByteArray} {maxL : Nat} {ret : Option FieldType} {hh : List (Nat × Nat × Nat × Nat)}
    (hown : s.vm.findClass own = some m.cls) (hlink : (Cond.methodLink own index y).before args s = true) (hinst : (Cond.instanceMethod y).before args s = true) (hsel : (Cond.selects C y y).before args s = true)
    (hcode : (Cond.codeWith y bytes maxL ret hh).before args s = true) (hy : y.cls ≠ "java/lang/invoke/MethodHandle" ∧ y.cls ≠ "java/lang/invoke/VarHandle")
    {W9 : Nat} {Pre : Pt → Array Value → Prop} {Post : Pt → Array Value → Option Value → Pt → Prop} {PostX : Pt → Array Value → Addr → Pt → Prop} (hK : vx_Back l R p e below s args y 3 W9 Pre Post PostX)
    {b : Addr} {cellB : Cell} (hcell : T.heap[b]? = some cellB) (hobj : cellB.vm.isStatics = false) (hcls : s.vm.findClass C = some cellB.cls)
    {g : JFrame} (hg : g.method = m) (hsize : g.locals.size = c.maxLocals) {argsL rest : List Value} (hlen : ∀ sig, parseMethodDescriptor y.desc = some sig → argsL.length = sig.parameters.length)
    (hstack : g.stack = argsL.reverse ++ .ref b :: rest) (hW : 2 * g.monitorRoom + (rest.map fun v => v.category).sum ≤ W9) (hdg : decode c.code g.pc = .ok (.invokevirtual index, 3))
    (hpre : ∀ vm₁, s.WarmedH vm₁ → Pre ⟨T.setVm vm₁, locs, cells, slots⟩ (Value.ref b :: argsL).toArray) :
    (∃ (v : Option Value) (vm₁ : Vm) (B : Pt), s.WarmedH vm₁ ∧ Stand p l e R s m args below meth c B.U B.locs B.cells B.slots ∧ Post ⟨T.setVm vm₁, locs, cells, slots⟩ (Value.ref b :: argsL).toArray v B ∧
      ∀ target, Steps p.tables e below (B.U.setTop { g with pc := g.pc + 3, stack := v.toList ++ rest }) target → Steps p.tables e below (T.setTop g) target) ∨
    (∃ (q : Addr) (vm₁ : Vm) (B : Pt), s.WarmedH vm₁ ∧ Stand p l e R s m args below meth c B.U B.locs B.cells B.slots ∧ PostX ⟨T.setVm vm₁, locs, cells, slots⟩ (Value.ref b :: argsL).toArray q B ∧
      Steps p.tables e below (T.setTop g) ((B.U.setTop { g with stack := rest }).pushFrame (.throwing q))) := by
  obtain ⟨mk, methM, hnamed, hmethM, hstM, habM⟩ := Cond.instanceMethod_spec hinst
  obtain ⟨m8, methM', cM, hn8, hmethM', -, -, -, -, -, -, hsigM⟩ := Cond.codeWith_spec hcode
  cases Option.some.inj (hn8.symm.trans hnamed)
  cases hmethM.symm.trans hmethM'
  obtain ⟨c2, r2, m2, q1, q2, q3, q4, kP, hkP, hkPi⟩ := Cond.selects_spec hsel
  cases hcls.symm.trans q1
  cases (State.methodFound?_of_named hnamed hy).symm.trans q2
  cases hnamed.symm.trans q3
  have hselP : selectMethod e.platform s.vm cellB.cls mk = .method mk := by rw [Launch.admits_selectMethod X.admits]; exact q4
  obtain ⟨vm₁, X₁, hstep₁⟩ := X.invokevirtual hexec hown hlink hnamed hmethM hstM hkP hkPi hy (a := b) (cell := cellB) hcell
    (fun z h => by rw [h] at hobj; cases hobj) hselP hmethM habM hkP hkPi (g := g) hg (argsL := argsL) (rest := rest) (hlen _ hsigM) hstack hdg
  rcases hK m meth c ⟨T.setVm vm₁, locs, cells, slots⟩ { g with stack := rest } (.invokevirtual index) mk (Value.ref b :: argsL).toArray X₁ hg hsize hdg hW (X₁.named hnamed) (hpre vm₁ X₁.warmed) with ⟨v, B, X', hpost, hsteps⟩ | ⟨q, B, X', hpost, hsteps⟩
  · exact Or.inl ⟨v, vm₁, B, X₁.warmed, X', hpost, fun target h => hstep₁ _ fun acts => by rw [doInvoke_state]; exact hsteps.trans h⟩
  · exact Or.inr ⟨q, vm₁, B, X₁.warmed, X', hpost, hstep₁ _ fun acts => by rw [doInvoke_state]; exact hsteps⟩
theorem vx_callSX (X : Stand p l e R s m args below meth c T locs cells slots) (hexec : p.tables.exec = Jvm.exec) {own : String} {index : Nat} {y : MethodName} {bytes : ByteArray} {maxL : Nat} {ret : Option FieldType} {hh : List (Nat × Nat × Nat × Nat)}
    (hown : s.vm.findClass own = some m.cls) (hlink : (Cond.methodLink own index y).before args s = true) (hstat : (Cond.static y).before args s = true) (hinit : (Cond.initialized y.cls).before args s = true)
    (hcode : (Cond.codeWith y bytes maxL ret hh).before args s = true) (hy : y.cls ≠ "java/lang/invoke/MethodHandle" ∧ y.cls ≠ "java/lang/invoke/VarHandle")
    {W9 : Nat} {Pre : Pt → Array Value → Prop} {Post : Pt → Array Value → Option Value → Pt → Prop} {PostX : Pt → Array Value → Addr → Pt → Prop} (hK : vx_Back l R p e below s args y 3 W9 Pre Post PostX)
    {g : JFrame} (hg : g.method = m) (hsize : g.locals.size = c.maxLocals) {argsL rest : List Value} (hlen : ∀ sig, parseMethodDescriptor y.desc = some sig → argsL.length = sig.parameters.length)
    (hstack : g.stack = argsL.reverse ++ rest) (hW : 2 * g.monitorRoom + (rest.map fun v => v.category).sum ≤ W9) (hdg : decode c.code g.pc = .ok (.invokestatic index, 3))
    (hpre : ∀ vm₁, s.WarmedH vm₁ → Pre ⟨T.setVm vm₁, locs, cells, slots⟩ argsL.toArray) :
    (∃ (v : Option Value) (vm₁ : Vm) (B : Pt), s.WarmedH vm₁ ∧ Stand p l e R s m args below meth c B.U B.locs B.cells B.slots ∧ Post ⟨T.setVm vm₁, locs, cells, slots⟩ argsL.toArray v B ∧
      ∀ target, Steps p.tables e below (B.U.setTop { g with pc := g.pc + 3, stack := v.toList ++ rest }) target → Steps p.tables e below (T.setTop g) target) ∨
    (∃ (q : Addr) (vm₁ : Vm) (B : Pt), s.WarmedH vm₁ ∧ Stand p l e R s m args below meth c B.U B.locs B.cells B.slots ∧ PostX ⟨T.setVm vm₁, locs, cells, slots⟩ argsL.toArray q B ∧
      Steps p.tables e below (T.setTop g) ((B.U.setTop { g with stack := rest }).pushFrame (.throwing q))) := by
  obtain ⟨mk, methM, cM, hnamed, hmethM, -, -, -, -, -, -, hsigM⟩ := Cond.codeWith_spec hcode
  have hstatic : methM.isStatic = true := Cond.static_spec hnamed hmethM hstat
  obtain ⟨kP, hkP, -⟩ := className_of_methodNamed hnamed
  have hinitP : kP.init = .initialized := Cond.initialized_spec (findClass_of_methodNamed hnamed) hkP hinit
  obtain ⟨vm₁, X₁, hstep₁⟩ := X.invokestatic hexec hown hlink hnamed hmethM hstatic hkP hinitP hy (g := g) hg (argsL := argsL) (rest := rest) (hlen _ hsigM) hstack hdg
  rcases hK m meth c ⟨T.setVm vm₁, locs, cells, slots⟩ { g with stack := rest } (.invokestatic index) mk argsL.toArray X₁ hg hsize hdg hW (X₁.named hnamed) (hpre vm₁ X₁.warmed) with ⟨v, B, X', hpost, hsteps⟩ | ⟨q, B, X', hpost, hsteps⟩
  · exact Or.inl ⟨v, vm₁, B, X₁.warmed, X', hpost, fun target h => hstep₁ _ fun acts => by rw [doInvoke_state]; exact hsteps.trans h⟩
  · exact Or.inr ⟨q, vm₁, B, X₁.warmed, X', hpost, hstep₁ _ fun acts => by rw [doInvoke_state]; exact hsteps⟩
theorem vx_callVW (X : Stand p l e R s m args below meth c T locs cells slots) (hexec : p.tables.exec = Jvm.exec) {own C : String} {index : Nat} {y : MethodName} {bytes : ByteArray} {maxL : Nat} {ret : Option FieldType} {hh : List (Nat × Nat × Nat × Nat)}
    (hown : s.vm.findClass own = some m.cls) (hlink : (Cond.methodLink own index y).before args s = true) (hinst : (Cond.instanceMethod y).before args s = true) (hsel : (Cond.selects C y y).before args s = true)
    (hcode : (Cond.codeWith y bytes maxL ret hh).before args s = true) (hy : y.cls ≠ "java/lang/invoke/MethodHandle" ∧ y.cls ≠ "java/lang/invoke/VarHandle")
    {W9 : Nat} {Pre : Pt → Array Value → Prop} {Post : Pt → Array Value → Option Value → Pt → Prop} (hK : Back l R p e below s args y 3 W9 Pre Post)
    {b : Addr} {cellB : Cell} (hcell : T.heap[b]? = some cellB) (hobj : cellB.vm.isStatics = false) (hcls : s.vm.findClass C = some cellB.cls)
    {g : JFrame} (hg : g.method = m) (hsize : g.locals.size = c.maxLocals) {argsL rest : List Value} (hlen : ∀ sig, parseMethodDescriptor y.desc = some sig → argsL.length = sig.parameters.length)
    (hstack : g.stack = argsL.reverse ++ .ref b :: rest) (hW : 2 * g.monitorRoom + (rest.map fun v => v.category).sum ≤ W9) (hdg : decode c.code g.pc = .ok (.invokevirtual index, 3))
    (hpre : ∀ vm₁, s.WarmedH vm₁ → Pre ⟨T.setVm vm₁, locs, cells, slots⟩ (Value.ref b :: argsL).toArray) :
    ∃ (v : Option Value) (vm₁ : Vm) (B : Pt), s.WarmedH vm₁ ∧ Stand p l e R s m args below meth c B.U B.locs B.cells B.slots ∧ Post ⟨T.setVm vm₁, locs, cells, slots⟩ (Value.ref b :: argsL).toArray v B ∧
      ∀ target, Steps p.tables e below (B.U.setTop { g with pc := g.pc + 3, stack := v.toList ++ rest }) target → Steps p.tables e below (T.setTop g) target := by
  obtain ⟨mk, methM, hnamed, hmethM, hstM, habM⟩ := Cond.instanceMethod_spec hinst
  obtain ⟨m8, methM', cM, hn8, hmethM', -, -, -, -, -, -, hsigM⟩ := Cond.codeWith_spec hcode
  cases Option.some.inj (hn8.symm.trans hnamed)
  cases hmethM.symm.trans hmethM'
  obtain ⟨c2, r2, m2, q1, q2, q3, q4, kP, hkP, hkPi⟩ := Cond.selects_spec hsel
  cases hcls.symm.trans q1
  cases (State.methodFound?_of_named hnamed hy).symm.trans q2
  cases hnamed.symm.trans q3
  have hselP : selectMethod e.platform s.vm cellB.cls mk = .method mk := by rw [Launch.admits_selectMethod X.admits]; exact q4
  obtain ⟨vm₁, X₁, hstep₁⟩ := X.invokevirtual hexec hown hlink hnamed hmethM hstM hkP hkPi hy (a := b) (cell := cellB) hcell
    (fun z h => by rw [h] at hobj; cases hobj) hselP hmethM habM hkP hkPi (g := g) hg (argsL := argsL) (rest := rest) (hlen _ hsigM) hstack hdg
  obtain ⟨v, B, X', hpost, hsteps⟩ := hK m meth c ⟨T.setVm vm₁, locs, cells, slots⟩ { g with stack := rest } (.invokevirtual index) mk (Value.ref b :: argsL).toArray X₁ hg hsize hdg hW (X₁.named hnamed) (hpre vm₁ X₁.warmed)
  exact ⟨v, vm₁, B, X₁.warmed, X', hpost, fun target h => hstep₁ _ fun acts => by rw [doInvoke_state]; exact hsteps.trans h⟩
abbrev vx_CVW (R : Room) (s : State) (args : Array Value) (own C : String) (index : Nat) (y : MethodName) (bytes : ByteArray) (maxL : Nat) (ret : Option FieldType) (hh : List (Nat × Nat × Nat × Nat)) (ws : List Cond) (rm : Room) (mc ms n : Nat) : Prop :=
  (rm.cells = mc ∧ rm.slots = ms ∧ rm.frames + 1 ≤ R.frames ∧ 8 + (maxL + 11) + rm.locals ≤ R.locals ∧ (∀ w ∈ ws, ∀ (a' : Array Value) (U : State), s.WarmedH U.vm → w.before a' U = true) ∧ Cond.codeWith y bytes maxL ret hh ∈ ws) ∧
  (Cond.codeWith y bytes maxL ret hh).before args s = true ∧ (Cond.initialized y.cls).before args s = true ∧ (y.cls ≠ "java/lang/invoke/MethodHandle" ∧ y.cls ≠ "java/lang/invoke/VarHandle") ∧
  (∀ sig, parseMethodDescriptor y.desc = some sig → n = sig.parameters.length) ∧ (Cond.methodLink own index y).before args s = true ∧ (Cond.instanceMethod y).before args s = true ∧ (Cond.selects C y y).before args s = true
theorem vx_cwVW {own C : String} {index maxL mc ms : Nat} {y : MethodName} {bytes : ByteArray} {ret : Option FieldType} {hh : List (Nat × Nat × Nat × Nat)} {Ts ws ws' : List Cond} {rm : Room} (n : Nat) (ht : ∀ w ∈ Ts, w.before args s = true) (hT : GoodIn Ts (wsV own index C y ws)) (hw : ws = Cond.codeWith y bytes maxL ret hh :: ws') (hrc : rm.cells = mc) (hrs : rm.slots = ms)
    (hd : y.cls = C ∧ y.cls ≠ "java/lang/invoke/MethodHandle" ∧ y.cls ≠ "java/lang/invoke/VarHandle" ∧ (parseMethodDescriptor y.desc).map (fun d => d.parameters.length) = some n) (hR : rm.frames + 1 ≤ R.frames ∧ 8 + (maxL + 11) + rm.locals ≤ R.locals) :
    vx_CVW R s args own C index y bytes maxL ret hh ws rm mc ms n := by
  obtain ⟨hC, hd⟩ := hd
  subst hC
  have ok : ∀ w ∈ wsV own index y.cls y ws, w.before args s = true := fun w h => ht w (hT w h).1
  have hG : GoodIn Ts ws := fun w h => hT w (by unfold wsV; exact List.mem_append_right _ h)
  have hc : Cond.codeWith y bytes maxL ret hh ∈ ws := by rw [hw]; exact List.mem_cons_self
  refine ⟨⟨hrc, hrs, hR.1, hR.2, pay_in ht hG, hc⟩, ht _ (hG _ hc).1, ok _ (by simp [wsV]), ⟨hd.1, hd.2.1⟩, fun sig h => ?_, ok _ (by simp [wsV]), ok _ (by simp [wsV]), ok _ (by simp [wsV])⟩
  have h2 := hd.2.2
  rw [h] at h2
  exact (Option.some.inj h2).symm
theorem vx_runVW {y : MethodName} {bytes cc : ByteArray} {maxL nL mc ms n index : Nat} {ret : Option FieldType} {hh : List (Nat × Nat × Nat × Nat)} {ws : List Cond} {rm : Room} {Pc : Array Value → State → Prop} {Qc : Array Value → State → Outcome → State → Prop} {free : Addr → Prop} {Ts : List Cond} {own C : String} {b : Addr} {As rest : List Value} {g : JFrame}
    (S : CallFix p m c cc nL s args Ts own) (hM : Met l y ws rm Pc Qc mc ms free) (cw : vx_CVW R s args own C index y bytes maxL ret hh ws rm mc ms n) (hp : PreV s H C b Pc As)
    (hg : g.method = m) (hn : As.length = n) (hsize : g.locals.size = nL) (hstack : g.stack = As.reverse ++ .ref b :: rest) (hW : 2 * g.monitorRoom + (rest.map fun v => v.category).sum ≤ 8) (hdg : decode cc g.pc = .ok (.invokevirtual index, 3)) (hf : cells + mc ≤ R.cells ∧ slots + ms ≤ R.slots) :
    va_Run p l e R s m args below meth c H locs cells slots mc ms g rest (Qc (Value.ref b :: As).toArray) free := by
  obtain ⟨⟨hrc, hrs, hfr, hlo, hws, hcw⟩, hcode, hini, hy, hlen, hl, hin, hse⟩ := cw
  have hK : Back l R p e below s args y 3 8 (PreOf R mc ms Pc) (PostOf Qc mc ms free) := va_backW (hh := hh) (bytes := bytes) (maxL := maxL) (ret := ret) hM hp.1 hrc hrs hfr hlo hws hcw (fun a' U hW => word_at hW (Or.inl (by first | rfl | simp [Cond.onTables, Cond.keeps, Cond.steady])) hini)
  obtain ⟨hx, hb, hml, ho, -⟩ := S
  obtain ⟨-, ⟨cellB, hcB, hoB, hclB⟩, hPc⟩ := hp
  intro T hT X
  obtain ⟨v, vm₁, ⟨U', l2, c2, s2⟩, hW₁, X', ⟨g', mk, t, L, e1, e2, hq, h1, hL, h2, h3⟩, st⟩ := vx_callVW X hx (C := C) (hh := hh) (bytes := bytes) (maxL := maxL) (ret := ret) ho hl hin hse hcode hy hK (by rw [hT]; exact hcB) hoB hclB hg (hsize.trans hml.symm) (argsL := As) (rest := rest) (fun sig h => hn.trans (hlen sig h)) hstack hW (by rw [hb]; exact hdg)
    (fun vm₁ hW₁ => ⟨hf.1, hf.2, hPc (T.setVm vm₁) hT hW₁⟩)
  dsimp only [Pt.U, Pt.locs, Pt.cells, Pt.slots] at X' e1 e2 h1 h2 h3 st
  subst h1; subst h2; subst h3
  exact ⟨v, (T.setVm vm₁).calling g' mk (Value.ref b :: As).toArray, t, U', L, hT, X', hL, e1, e2, hq, st⟩
section
variable {y : MethodName} {bytes cc : ByteArray} {maxL nL mc ms n index : Nat} {ret : Option FieldType} {ws : List Cond} {rm : Room} {Pc : Array Value → State → Prop} {Qc : Array Value → State → Outcome → State → Prop} {XC : String → State → State → Prop} {free : Addr → Prop} {Ts : List Cond} {own C : String} {b : Addr} {As rest : List Value} {g : JFrame}
theorem vx_runVX {hh : List (Nat × Nat × Nat × Nat)} (S : CallFix p m c cc nL s args Ts own) (hM : vx_Met l y ws rm Pc Qc XC mc ms free) (cw : vx_CVW R s args own C index y bytes maxL ret hh ws rm mc ms n) (hp : PreV s H C b Pc As)
    (hg : g.method = m) (hn : As.length = n) (hsize : g.locals.size = nL) (hstack : g.stack = As.reverse ++ .ref b :: rest) (hW : 2 * g.monitorRoom + (rest.map fun v => v.category).sum ≤ 8) (hdg : decode cc g.pc = .ok (.invokevirtual index, 3)) (hf : cells + mc ≤ R.cells ∧ slots + ms ≤ R.slots) :
    vx_Run p l e R s m args below meth c H locs cells slots mc ms g rest (Qc (Value.ref b :: As).toArray) XC free := by
  obtain ⟨⟨hrc, hrs, hfr, hlo, hws, hcw⟩, hcode, hini, hy, hlen, hl, hin, hse⟩ := cw
  have hK : vx_Back l R p e below s args y 3 8 (PreOf R mc ms Pc) (PostOf Qc mc ms free) (vx_Post XC mc ms free) := vx_backW (hh := hh) (bytes := bytes) (maxL := maxL) (ret := ret) hM hp.1 hrc hrs hfr hlo hws hcw (fun a' U hW => word_at hW (Or.inl (by first | rfl | simp [Cond.onTables, Cond.keeps, Cond.steady])) hini)
  obtain ⟨hx, hb, hml, ho, -⟩ := S
  obtain ⟨-, ⟨cellB, hcB, hoB, hclB⟩, hPc⟩ := hp
  intro T hT X
  rcases vx_callVX X hx (C := C) (hh := hh) (bytes := bytes) (maxL := maxL) (ret := ret) ho hl hin hse hcode hy hK (by rw [hT]; exact hcB) hoB hclB hg (hsize.trans hml.symm) (argsL := As) (rest := rest) (fun sig h => hn.trans (hlen sig h)) hstack hW (by rw [hb]; exact hdg)
    (fun vm₁ hW₁ => ⟨hf.1, hf.2, hPc (T.setVm vm₁) hT hW₁⟩) with ⟨v, vm₁, ⟨U', l2, c2, s2⟩, hW₁, X', ⟨g', mk, t, L, e1, e2, hq, h1, hL, h2, h3⟩, st⟩ | ⟨q, vm₁, ⟨U', l2, c2, s2⟩, hW₁, X', ⟨g', mk, t, L, E, ce, e1, e2, hq, hce, hcv, hcl, h1, hL, h2, h3⟩, st⟩
  · dsimp only [Pt.U, Pt.locs, Pt.cells, Pt.slots] at X' e1 e2 h1 h2 h3 st
    subst h1; subst h2; subst h3
    exact Or.inl ⟨v, (T.setVm vm₁).calling g' mk (Value.ref b :: As).toArray, t, U', L, hT, X', hL, e1, e2, hq, st⟩
  · dsimp only [Pt.U, Pt.locs, Pt.cells, Pt.slots] at X' e1 e2 h1 h2 h3 st hcl
    subst h1; subst h2; subst h3
    exact Or.inr ⟨q, (T.setVm vm₁).calling g' mk (Value.ref b :: As).toArray, t, U', L, E, ce, hT, X', hL, e1, e2, hq, hce, hcv, vx_cls hW₁ hcl, st⟩
theorem vx_runSX {hh : List (Nat × Nat × Nat × Nat)} (S : CallFix p m c cc nL s args Ts own) (hM : vx_Met l y ws rm Pc Qc XC mc ms free) (cw : vx_CSW R s args own index y bytes maxL ret hh ws rm mc ms n) (hp : PreS s H Pc As)
    (hg : g.method = m) (hn : As.length = n) (hsize : g.locals.size = nL) (hstack : g.stack = As.reverse ++ rest) (hW : 2 * g.monitorRoom + (rest.map fun v => v.category).sum ≤ 8) (hdg : decode cc g.pc = .ok (.invokestatic index, 3)) (hf : cells + mc ≤ R.cells ∧ slots + ms ≤ R.slots) :
    vx_Run p l e R s m args below meth c H locs cells slots mc ms g rest (Qc As.toArray) XC free := by
  obtain ⟨⟨hrc, hrs, hfr, hlo, hws, hcw⟩, hcode, hini, hy, hlen, hl, hstt⟩ := cw
  have hK : vx_Back l R p e below s args y 3 8 (PreOf R mc ms Pc) (PostOf Qc mc ms free) (vx_Post XC mc ms free) := vx_backW (hh := hh) (bytes := bytes) (maxL := maxL) (ret := ret) hM hp.1 hrc hrs hfr hlo hws hcw (fun a' U hW => word_at hW (Or.inl (by first | rfl | simp [Cond.onTables, Cond.keeps, Cond.steady])) hini)
  obtain ⟨hx, hb, hml, ho, -⟩ := S
  intro T hT X
  rcases vx_callSX X hx (hh := hh) (bytes := bytes) (maxL := maxL) (ret := ret) ho hl hstt hini hcode hy hK hg (hsize.trans hml.symm) (argsL := As) (rest := rest) (fun sig h => hn.trans (hlen sig h)) hstack hW (by rw [hb]; exact hdg)
    (fun vm₁ hW₁ => ⟨hf.1, hf.2, hp.2 (T.setVm vm₁) hT hW₁⟩) with ⟨v, vm₁, ⟨U', l2, c2, s2⟩, hW₁, X', ⟨g', mk, t, L, e1, e2, hq, h1, hL, h2, h3⟩, st⟩ | ⟨q, vm₁, ⟨U', l2, c2, s2⟩, hW₁, X', ⟨g', mk, t, L, E, ce, e1, e2, hq, hce, hcv, hcl, h1, hL, h2, h3⟩, st⟩
  · dsimp only [Pt.U, Pt.locs, Pt.cells, Pt.slots] at X' e1 e2 h1 h2 h3 st
    subst h1; subst h2; subst h3
    exact Or.inl ⟨v, (T.setVm vm₁).calling g' mk As.toArray, t, U', L, hT, X', hL, e1, e2, hq, st⟩
  · dsimp only [Pt.U, Pt.locs, Pt.cells, Pt.slots] at X' e1 e2 h1 h2 h3 st hcl
    subst h1; subst h2; subst h3
    exact Or.inr ⟨q, (T.setVm vm₁).calling g' mk As.toArray, t, U', L, E, ce, hT, X', hL, e1, e2, hq, hce, hcv, vx_cls hW₁ hcl, st⟩
end
end VXH
theorem vx_ofWH {l : Launch} {y : MethodName} {ws ws' : List Cond} {rm : Room} {Pc : Array Value → State → Prop} {Qc : Array Value → State → Outcome → State → Prop} {XC : String → State → State → Prop} {mc ms : Nat} {free : Addr → Prop} {cc : ByteArray} {maxL : Nat} {ret : Option FieldType} {hh : List (Nat × Nat × Nat × Nat)}
    (hy : plainName y.cls = true) (hw : ws = Cond.codeWith y cc maxL ret hh :: ws')
    (body : ∀ p e s m args below meth c s₁, BodyLoose p l y (headSpec ws rm) cc maxL ret e s m args below meth c s₁ → c.maxLocals = maxL → Pc args s →
      W p l e (headSpec ws rm).room s m args below meth c s.heap [] 0 0 (vx_MQ below Qc XC args s mc ms free) (entryFrame m args maxL)) : vx_Met l y ws rm Pc Qc XC mc ms free := by
  refine MetFree.of_bodyS (code := cc) (maxLocals := maxL) (ret := ret) hy ?_ ?_
  · intro args s m h hn
    obtain ⟨m9, meth, c, hn9, h1, h2, h3, h4, -, h5, h6, -⟩ := Cond.codeWith_spec (atoms_spec (ws := ws) h _ (by rw [hw]; exact List.mem_cons_self))
    cases hn.symm.trans hn9
    exact ⟨meth, c, h1, h2, h3, h4, h5, h6⟩
  · intro p e s m args below meth c s₁ B hml hP _
    have hh0 : s₁.heap = s.heap := by rw [B.state]; rfl
    obtain ⟨t, a1, o, b1, b2, b3⟩ := body p e s m args below meth c s₁ B hml hP s₁ hh0 (Stand.of_body B)
    exact ⟨t, o, a1, b1, b2, b3⟩
/-! ===== END ===== -/
end
section
/-! ===== permutations as numbers ===== -/
theorem im_or (a b i : Nat) : im (a ||| b) i = im a i ||| im b i := by
  unfold im
  rw [Nat.or_div_two_pow]
  exact Nat.or_mod_two_pow (n := 3)
theorem im_zero (i : Nat) : im 0 i = 0 := by unfold im; rw [Nat.zero_div]
theorem im_sh {v i j : Nat} (h : v < 8) : im (v * 2 ^ (3 * j)) i = if i = j then v else 0 := by
  unfold im
  by_cases e : i = j
  · rw [if_pos e, e, Nat.mul_div_cancel _ (Nat.two_pow_pos _), Nat.mod_eq_of_lt h]
  · rw [if_neg e]
    rcases Nat.lt_or_ge i j with hl | hl
    · obtain ⟨d, hd⟩ : ∃ d, j = i + 1 + d := ⟨j - (i + 1), by omega⟩
      have e1 : v * 2 ^ (3 * j) = v * 2 ^ (3 * d) * 8 * 2 ^ (3 * i) := by
        rw [hd, show 3 * (i + 1 + d) = 3 * d + 3 + 3 * i by omega, Nat.pow_add, Nat.pow_add, ← Nat.mul_assoc, ← Nat.mul_assoc]
      rw [e1, Nat.mul_div_cancel _ (Nat.two_pow_pos _), Nat.mul_mod_left]
    · obtain ⟨d, hd⟩ : ∃ d, i = j + 1 + d := ⟨i - (j + 1), by omega⟩
      have e1 : (2 : Nat) ^ (3 * i) = 2 ^ (3 * j) * 2 ^ (3 * d + 3) := by rw [← Nat.pow_add]; congr 1; omega
      have h8 : 8 ≤ 2 ^ (3 * d + 3) := by
        have : (2 : Nat) ^ 3 ≤ 2 ^ (3 * d + 3) := Nat.pow_le_pow_right (by decide) (by omega)
        simpa using this
      rw [e1, ← Nat.div_div_eq_div_mul, Nat.mul_div_cancel _ (Nat.two_pow_pos _), Nat.div_eq_of_lt (by omega)]
theorem im_div8 (P i : Nat) : im (P / 8) i = im P (i + 1) := by
  unfold im
  rw [Nat.div_div_eq_div_mul, show 3 * (i + 1) = 3 + 3 * i by omega, Nat.pow_add]
theorem im_ext : ∀ n {P Q : Nat}, P < 2 ^ (3 * n) → Q < 2 ^ (3 * n) → (∀ i, i < n → im P i = im Q i) → P = Q
  | 0, P, Q, hP, hQ, _ => by
      have h1 : P < 1 := hP
      have h2 : Q < 1 := hQ
      omega
  | n + 1, P, Q, hP, hQ, h => by
      have e : 2 ^ (3 * (n + 1)) = 2 ^ (3 * n) * 8 := by rw [show 3 * (n + 1) = 3 * n + 3 by omega, Nat.pow_add]
      rw [e] at hP hQ
      have h1 : P / 8 = Q / 8 := im_ext n (Nat.div_lt_of_lt_mul (by rw [Nat.mul_comm]; exact hP)) (Nat.div_lt_of_lt_mul (by rw [Nat.mul_comm]; exact hQ)) (fun i hi => by rw [im_div8, im_div8]; exact h (i + 1) (by omega))
      have h2 : P % 8 = Q % 8 := by
        have := h 0 (by omega)
        unfold im at this
        simpa using this
      omega
theorem im_high {P n i : Nat} (h : P < 2 ^ (3 * n)) (hi : n ≤ i) : im P i = 0 := by
  unfold im
  rw [Nat.div_eq_of_lt (Nat.lt_of_lt_of_le h (Nat.pow_le_pow_right (by decide) (by omega)))]
theorem bd_sh {v i n : Nat} (hv : v < 8) (hi : i < n) : v * 2 ^ (3 * i) < 2 ^ (3 * n) := by
  calc v * 2 ^ (3 * i) < 8 * 2 ^ (3 * i) := Nat.mul_lt_mul_of_pos_right hv (Nat.two_pow_pos _)
    _ = 2 ^ (3 * i + 3) := by rw [Nat.pow_add, Nat.mul_comm]
    _ ≤ 2 ^ (3 * n) := Nat.pow_le_pow_right (by decide) (by omega)
theorem cpF_bd (P Q n : Nat) : ∀ k i a, i + k ≤ n → a < 2 ^ (3 * n) → cpF P Q k i a < 2 ^ (3 * n)
  | 0, _, _, _, h => h
  | k + 1, i, a, h1, h => cpF_bd P Q n k (i + 1) _ (by omega) (Nat.or_lt_two_pow h (bd_sh (im_lt _ _) (by omega)))
theorem tm_bd (n P Q : Nat) : tm n P Q < 2 ^ (3 * n) := cpF_bd P Q n n 0 0 (by omega) (Nat.two_pow_pos _)
theorem cpF_im (P Q : Nat) : ∀ k i a j, im (cpF P Q k i a) j = if i ≤ j ∧ j < i + k then im a j ||| im Q (im P j) else im a j
  | 0, i, a, j => by rw [if_neg (by omega)]; rfl
  | k + 1, i, a, j => by
      show im (cpF P Q k (i + 1) (a ||| im Q (im P i) * 2 ^ (3 * i))) j = _
      rw [cpF_im P Q k (i + 1), im_or, im_sh (im_lt _ _)]
      by_cases e : j = i
      · subst e
        rw [if_neg (by omega), if_pos rfl, if_pos (by omega)]
      · rw [if_neg e, Nat.or_zero]
        by_cases c : i + 1 ≤ j ∧ j < i + 1 + k
        · rw [if_pos c, if_pos (by omega)]
        · rw [if_neg c, if_neg (by omega)]
theorem tm_im (n P Q j : Nat) : im (tm n P Q) j = if j < n then im Q (im P j) else 0 := by
  unfold tm
  rw [cpF_im, im_zero, Nat.zero_or]
  by_cases c : j < n
  · rw [if_pos (by omega), if_pos c]
  · rw [if_neg (by omega), if_neg c]
theorem mkF_bit (P : Nat) : ∀ k i a y, (mkF P k i a).testBit y = true ↔ a.testBit y = true ∨ ∃ j, i ≤ j ∧ j < i + k ∧ im P j = y
  | 0, i, a, y => by
      show a.testBit y = true ↔ _
      constructor
      · exact Or.inl
      · rintro (h | ⟨j, h1, h2, -⟩)
        · exact h
        · omega
  | k + 1, i, a, y => by
      show (mkF P k (i + 1) (a ||| 1 * 2 ^ im P i)).testBit y = true ↔ _
      rw [mkF_bit P k (i + 1), Nat.testBit_or, Bool.or_eq_true, Nat.one_mul, Nat.testBit_two_pow, decide_eq_true_eq]
      constructor
      · rintro ((h | h) | ⟨j, h1, h2, h3⟩)
        · exact Or.inl h
        · exact Or.inr ⟨i, by omega, by omega, h⟩
        · exact Or.inr ⟨j, by omega, by omega, h3⟩
      · rintro (h | ⟨j, h1, h2, h3⟩)
        · exact Or.inl (Or.inl h)
        · by_cases e : j = i
          · subst e; exact Or.inl (Or.inr h3)
          · exact Or.inr ⟨j, by omega, by omega, h3⟩
/-- what isP says: the images are the points -/
def PM (n P : Nat) : Prop := P < 2 ^ (3 * n) ∧ (∀ j, j < n → im P j < n) ∧ ∀ y, y < n → ∃ j, j < n ∧ im P j = y
theorem isP_PM {n P : Nat} : isP n P = true ↔ PM n P := by
  rw [isP_iff, Nat.one_mul]
  constructor
  · rintro ⟨h1, h2⟩
    have hb : ∀ y, (∃ j, j < n ∧ im P j = y) ↔ y < n := by
      intro y
      have h3 := mkF_bit P n 0 0 y
      rw [h2, Nat.testBit_two_pow_sub_one, decide_eq_true_eq] at h3
      constructor
      · rintro ⟨j, h4, h5⟩
        exact h3.mpr (Or.inr ⟨j, by omega, by omega, h5⟩)
      · intro h4
        rcases h3.mp h4 with h5 | ⟨j, -, h5, h6⟩
        · simp at h5
        · exact ⟨j, by omega, h6⟩
    refine ⟨?_, fun j hj => (hb _).mp ⟨j, hj, rfl⟩, fun y hy => (hb y).mpr hy⟩
    rcases Nat.lt_or_ge P (2 ^ (3 * n)) with h | h
    · exact h
    · have := Nat.div_pos h (Nat.two_pow_pos (3 * n)); omega
  · rintro ⟨h1, h2, h3⟩
    refine ⟨Nat.div_eq_of_lt h1, ?_⟩
    apply Nat.eq_of_testBit_eq
    intro y
    have h4 := mkF_bit P n 0 0 y
    rw [Nat.testBit_two_pow_sub_one]
    by_cases c : y < n
    · rw [decide_eq_true c]
      obtain ⟨j, h5, h6⟩ := h3 y c
      exact h4.mpr (Or.inr ⟨j, by omega, by omega, h6⟩)
    · rw [decide_eq_false c]
      cases hb : (mkF P n 0 0).testBit y with
      | false => rfl
      | true =>
        rcases h4.mp hb with h5 | ⟨j, -, h5, h6⟩
        · simp at h5
        · exact absurd (h6 ▸ h2 j (by omega)) c
/-- onto is one to one -/
theorem PM_inj {n P : Nat} (h : PM n P) {i j : Nat} (hi : i < n) (hj : j < n) (e : im P i = im P j) : i = j := by
  rcases Nat.decEq i j with ne | he
  · exfalso
    have hsub : List.range n ⊆ ((List.range n).erase j).map (im P) := by
      intro y hy
      obtain ⟨k, hk, ek⟩ := h.2.2 y (List.mem_range.mp hy)
      by_cases c : k = j
      · exact List.mem_map.mpr ⟨i, (List.mem_erase_of_ne ne).mpr (List.mem_range.mpr hi), by rw [e, ← c]; exact ek⟩
      · exact List.mem_map.mpr ⟨k, (List.mem_erase_of_ne c).mpr (List.mem_range.mpr hk), ek⟩
    have hl := List.Nodup.length_le_of_subset List.nodup_range hsub
    rw [List.length_map, List.length_range, List.length_erase_of_mem (List.mem_range.mpr hj), List.length_range] at hl
    omega
  · exact he
theorem PM_tm {n P Q : Nat} (hP : PM n P) (hQ : PM n Q) : PM n (tm n P Q) := by
  refine ⟨tm_bd n P Q, fun j hj => ?_, fun y hy => ?_⟩
  · rw [tm_im, if_pos hj]
    exact hQ.2.1 _ (hP.2.1 j hj)
  · obtain ⟨i, hi, ei⟩ := hQ.2.2 y hy
    obtain ⟨j, hj, ej⟩ := hP.2.2 i hi
    exact ⟨j, hj, by rw [tm_im, if_pos hj, ej]; exact ei⟩
theorem PM_ext {n P Q : Nat} (hP : PM n P) (hQ : PM n Q) (h : ∀ i, i < n → im P i = im Q i) : P = Q := im_ext n hP.1 hQ.1 h
theorem idF_bd (n : Nat) : ∀ k i a, i + k ≤ n → n ≤ 8 → a < 2 ^ (3 * n) → idF k i a < 2 ^ (3 * n)
  | 0, _, _, _, _, h => h
  | k + 1, i, a, h1, h8, h => idF_bd n k (i + 1) _ (by omega) h8 (Nat.or_lt_two_pow h (bd_sh (by omega) (by omega)))
theorem idF_im : ∀ k i a j, i + k ≤ 8 → im (idF k i a) j = if i ≤ j ∧ j < i + k then im a j ||| j else im a j
  | 0, i, a, j, _ => by rw [if_neg (by omega)]; rfl
  | k + 1, i, a, j, h8 => by
      show im (idF k (i + 1) (a ||| i * 2 ^ (3 * i))) j = _
      rw [idF_im k (i + 1) _ j (by omega), im_or, im_sh (by omega)]
      by_cases e : j = i
      · subst e
        rw [if_neg (by omega), if_pos rfl, if_pos (by omega)]
      · rw [if_neg e, Nat.or_zero]
        by_cases c : i + 1 ≤ j ∧ j < i + 1 + k
        · rw [if_pos c, if_pos (by omega)]
        · rw [if_neg c, if_neg (by omega)]
theorem idn_im {n : Nat} (hn : n ≤ 7) (j : Nat) : im (idn n) j = if j < n then j else 0 := by
  unfold idn
  rw [idF_im n 0 0 j (by omega), im_zero, Nat.zero_or]
  by_cases c : j < n
  · rw [if_pos (by omega), if_pos c]
  · rw [if_neg (by omega), if_neg c]
theorem PM_id {n : Nat} (hn : n ≤ 7) : PM n (idn n) := by
  refine ⟨idF_bd n n 0 0 (by omega) (by omega) (Nat.two_pow_pos _), fun j hj => ?_, fun y hy => ⟨y, hy, ?_⟩⟩
  · rw [idn_im hn, if_pos hj]; exact hj
  · rw [idn_im hn, if_pos hy]
theorem bkF_bd (P n : Nat) (hP : ∀ j, j < n → im P j < n) : ∀ k i a, i + k ≤ n → n ≤ 7 → a < 2 ^ (3 * n) → bkF P k i a < 2 ^ (3 * n)
  | 0, _, _, _, _, h => h
  | k + 1, i, a, h1, h7, h => bkF_bd P n hP k (i + 1) _ (by omega) h7 (Nat.or_lt_two_pow h (bd_sh (by omega) (hP i (by omega))))
theorem bkF_no (P : Nat) : ∀ k i a y, i + k ≤ 8 → (∀ j, i ≤ j → j < i + k → im P j ≠ y) → im (bkF P k i a) y = im a y
  | 0, _, _, _, _, _ => rfl
  | k + 1, i, a, y, h8, h => by
      show im (bkF P k (i + 1) (a ||| i * 2 ^ (3 * im P i))) y = _
      rw [bkF_no P k (i + 1) _ y (by omega) (fun j h1 h2 => h j (by omega) (by omega)), im_or, im_sh (by omega), if_neg (fun e => h i (by omega) (by omega) e.symm), Nat.or_zero]
theorem bkF_at (P n : Nat) (hinj : ∀ i j, i < n → j < n → im P i = im P j → i = j) : ∀ k i a j, i + k ≤ n → n ≤ 7 → i ≤ j → j < i + k → im (bkF P k i a) (im P j) = im a (im P j) ||| j
  | 0, i, a, j, _, _, h1, h2 => by omega
  | k + 1, i, a, j, hk, h7, h1, h2 => by
      show im (bkF P k (i + 1) (a ||| i * 2 ^ (3 * im P i))) (im P j) = _
      by_cases e : j = i
      · subst e
        rw [bkF_no P k (j + 1) _ _ (by omega) (fun q h3 h4 h5 => by have := hinj q j (by omega) (by omega) h5; omega), im_or, im_sh (by omega), if_pos rfl]
      · rw [bkF_at P n hinj k (i + 1) _ j (by omega) h7 (by omega) (by omega), im_or, im_sh (by omega), if_neg (fun h5 => e (hinj j i (by omega) (by omega) h5)), Nat.or_zero]
theorem bk_im {n P : Nat} (hn : n ≤ 7) (hP : PM n P) {j : Nat} (hj : j < n) : im (bk n P) (im P j) = j := by
  unfold bk
  rw [bkF_at P n (fun i j hi hj e => PM_inj hP hi hj e) n 0 0 j (by omega) hn (by omega) (by omega), im_zero, Nat.zero_or]
theorem PM_bk {n P : Nat} (hn : n ≤ 7) (hP : PM n P) : PM n (bk n P) := by
  refine ⟨bkF_bd P n hP.2.1 n 0 0 (by omega) hn (Nat.two_pow_pos _), fun y hy => ?_, fun j hj => ⟨im P j, hP.2.1 j hj, bk_im hn hP hj⟩⟩
  obtain ⟨j, hj, ej⟩ := hP.2.2 y hy
  rw [← ej, bk_im hn hP hj]
  exact hj
theorem im_bk {n P : Nat} (hn : n ≤ 7) (hP : PM n P) {y : Nat} (hy : y < n) : im P (im (bk n P) y) = y := by
  obtain ⟨j, hj, ej⟩ := hP.2.2 y hy
  rw [← ej, bk_im hn hP hj]
/-! ===== the group laws ===== -/
theorem tm_assoc {n P Q S : Nat} (hP : PM n P) (hQ : PM n Q) (hS : PM n S) : tm n (tm n P Q) S = tm n P (tm n Q S) := by
  refine PM_ext (PM_tm (PM_tm hP hQ) hS) (PM_tm hP (PM_tm hQ hS)) (fun i hi => ?_)
  rw [tm_im, if_pos hi, tm_im, if_pos hi, tm_im, if_pos hi, tm_im, if_pos (hP.2.1 i hi)]
theorem tm_id {n P : Nat} (hn : n ≤ 7) (hP : PM n P) : tm n P (idn n) = P := by
  refine PM_ext (PM_tm hP (PM_id hn)) hP (fun i hi => ?_)
  rw [tm_im, if_pos hi, idn_im hn, if_pos (hP.2.1 i hi)]
theorem id_tm {n P : Nat} (hn : n ≤ 7) (hP : PM n P) : tm n (idn n) P = P := by
  refine PM_ext (PM_tm (PM_id hn) hP) hP (fun i hi => ?_)
  rw [tm_im, if_pos hi, idn_im hn, if_pos hi]
theorem tm_bk {n P : Nat} (hn : n ≤ 7) (hP : PM n P) : tm n P (bk n P) = idn n := by
  refine PM_ext (PM_tm hP (PM_bk hn hP)) (PM_id hn) (fun i hi => ?_)
  rw [tm_im, if_pos hi, bk_im hn hP hi, idn_im hn, if_pos hi]
theorem bk_tm {n P : Nat} (hn : n ≤ 7) (hP : PM n P) : tm n (bk n P) P = idn n := by
  refine PM_ext (PM_tm (PM_bk hn hP) hP) (PM_id hn) (fun i hi => ?_)
  rw [tm_im, if_pos hi, im_bk hn hP hi, idn_im hn, if_pos hi]
theorem tm_cancel {n P Q S : Nat} (hn : n ≤ 7) (hP : PM n P) (hQ : PM n Q) (hS : PM n S) (h : tm n P S = tm n Q S) : P = Q := by
  have h1 := congrArg (fun z => tm n z (bk n S)) h
  rw [tm_assoc hP hS (PM_bk hn hS), tm_assoc hQ hS (PM_bk hn hS), tm_bk hn hS, tm_id hn hP, tm_id hn hQ] at h1
  exact h1
theorem tm_bk_eq {n P Q : Nat} (hn : n ≤ 7) (hP : PM n P) (hQ : PM n Q) : tm n (tm n P (bk n Q)) Q = P := by
  rw [tm_assoc hP (PM_bk hn hQ) hQ, bk_tm hn hQ, tm_id hn hP]
theorem PM_lt {n P : Nat} (hn : n ≤ 7) (h : PM n P) : P < 2 ^ 24 := isP_lt hn (isP_PM.mpr h)
end
section
/-! ===== pigeons; powers; the group that some generate ===== -/
theorem pigeon (f : Nat → Nat) (N : Nat) (h : ∀ i, i ≤ N → f i < N) : ∃ i j, i < j ∧ j ≤ N ∧ f i = f j := by
  refine Classical.byContradiction (fun hc => ?_)
  have hne : ∀ i j, i < j → j ≤ N → f i ≠ f j := fun i j h1 h2 e => hc ⟨i, j, h1, h2, e⟩
  have hnd : ((List.range (N + 1)).map f).Nodup := by
    refine List.pairwise_map.mpr (List.Pairwise.imp_of_mem ?_ List.pairwise_lt_range)
    intro a b ha hb hab
    exact hne a b hab (by have := List.mem_range.mp hb; omega)
  have hsub : (List.range (N + 1)).map f ⊆ List.range N := by
    intro y hy
    obtain ⟨i, hi, rfl⟩ := List.mem_map.mp hy
    exact List.mem_range.mpr (h i (by have := List.mem_range.mp hi; omega))
  have := List.Nodup.length_le_of_subset hnd hsub
  rw [List.length_map, List.length_range, List.length_range] at this
  omega
def pw (n P : Nat) : Nat → Nat
  | 0 => idn n
  | k + 1 => tm n (pw n P k) P
theorem PM_pw {n P : Nat} (hn : n ≤ 7) (hP : PM n P) : ∀ k, PM n (pw n P k)
  | 0 => PM_id hn
  | k + 1 => PM_tm (PM_pw hn hP k) hP
theorem pw_add {n P : Nat} (hn : n ≤ 7) (hP : PM n P) (a : Nat) : ∀ b, tm n (pw n P a) (pw n P b) = pw n P (a + b)
  | 0 => tm_id hn (PM_pw hn hP a)
  | b + 1 => by
      show tm n (pw n P a) (tm n (pw n P b) P) = tm n (pw n P (a + b)) P
      rw [← tm_assoc (PM_pw hn hP a) (PM_pw hn hP b) hP, pw_add hn hP a b]
/-- the inverse is a power -/
theorem bk_pw {n P : Nat} (hn : n ≤ 7) (hP : PM n P) : ∃ d, bk n P = pw n P d := by
  obtain ⟨i, j, hij, -, e⟩ := pigeon (pw n P) (2 ^ (3 * n)) (fun i _ => (PM_pw hn hP i).1)
  obtain ⟨d, hd⟩ : ∃ d, j = d + 1 + i := ⟨j - i - 1, by omega⟩
  refine ⟨d, ?_⟩
  have h1 : tm n (pw n P (d + 1)) (pw n P i) = tm n (idn n) (pw n P i) := by
    rw [pw_add hn hP, ← hd, ← e, id_tm hn (PM_pw hn hP i)]
  have h2 := tm_cancel hn (PM_pw hn hP (d + 1)) (PM_id hn) (PM_pw hn hP i) h1
  have h3 : tm n (pw n P d) P = tm n (bk n P) P := by rw [bk_tm hn hP]; exact h2
  exact (tm_cancel hn (PM_pw hn hP d) (PM_bk hn hP) hP h3).symm
def inG (n ct : Nat) (g : Nat → Nat) (P : Nat) : Prop := ∃ w : List Nat, (∀ j ∈ w, j < ct) ∧ P = w.foldl (fun q j => tm n q (g j)) (idn n)
section GRP
variable {n ct : Nat} {g : Nat → Nat}
theorem fold_PM (hg : ∀ j, j < ct → PM n (g j)) : ∀ (w : List Nat) (X : Nat), (∀ j ∈ w, j < ct) → PM n X → PM n (w.foldl (fun q j => tm n q (g j)) X)
  | [], _, _, hX => hX
  | j :: w, X, hw, hX => fold_PM hg w (tm n X (g j)) (fun i hi => hw i (List.mem_cons_of_mem _ hi)) (PM_tm hX (hg j (hw j List.mem_cons_self)))
theorem fold_mul (hg : ∀ j, j < ct → PM n (g j)) {P : Nat} (hP : PM n P) : ∀ (w : List Nat) (X : Nat), (∀ j ∈ w, j < ct) → PM n X → w.foldl (fun q j => tm n q (g j)) (tm n P X) = tm n P (w.foldl (fun q j => tm n q (g j)) X)
  | [], _, _, _ => rfl
  | j :: w, X, hw, hX => by
      have hj := hg j (hw j List.mem_cons_self)
      show w.foldl (fun q j => tm n q (g j)) (tm n (tm n P X) (g j)) = tm n P (w.foldl (fun q j => tm n q (g j)) (tm n X (g j)))
      rw [tm_assoc hP hX hj, fold_mul hg hP w (tm n X (g j)) (fun i hi => hw i (List.mem_cons_of_mem _ hi)) (PM_tm hX hj)]
theorem inG_PM (hn : n ≤ 7) (hg : ∀ j, j < ct → PM n (g j)) {P : Nat} (h : inG n ct g P) : PM n P := by
  obtain ⟨w, hw, rfl⟩ := h
  exact fold_PM hg w _ hw (PM_id hn)
theorem inG_id : inG n ct g (idn n) := ⟨[], fun _ h => absurd h List.not_mem_nil, rfl⟩
theorem inG_mg {P j : Nat} (h : inG n ct g P) (hj : j < ct) : inG n ct g (tm n P (g j)) := by
  obtain ⟨w, hw, rfl⟩ := h
  refine ⟨w ++ [j], fun i hi => ?_, by rw [List.foldl_append]; rfl⟩
  rcases List.mem_append.mp hi with h | h
  · exact hw i h
  · rw [List.mem_singleton.mp h]; exact hj
theorem inG_gen (hn : n ≤ 7) (hg : ∀ j, j < ct → PM n (g j)) {j : Nat} (hj : j < ct) : inG n ct g (g j) := by
  have := inG_mg (g := g) (inG_id (n := n) (ct := ct)) hj
  rw [id_tm hn (hg j hj)] at this
  exact this
theorem inG_mul (hn : n ≤ 7) (hg : ∀ j, j < ct → PM n (g j)) {P Q : Nat} (hP : inG n ct g P) (hQ : inG n ct g Q) : inG n ct g (tm n P Q) := by
  have hPM := inG_PM hn hg hP
  obtain ⟨w1, hw1, rfl⟩ := hP
  obtain ⟨w2, hw2, rfl⟩ := hQ
  refine ⟨w1 ++ w2, fun i hi => (List.mem_append.mp hi).elim (hw1 i) (hw2 i), ?_⟩
  rw [List.foldl_append, ← fold_mul hg hPM w2 (idn n) hw2 (PM_id hn), tm_id hn hPM]
theorem inG_pw (hn : n ≤ 7) (hg : ∀ j, j < ct → PM n (g j)) {P : Nat} (hP : inG n ct g P) : ∀ k, inG n ct g (pw n P k)
  | 0 => inG_id
  | k + 1 => inG_mul hn hg (inG_pw hn hg hP k) hP
theorem inG_bk (hn : n ≤ 7) (hg : ∀ j, j < ct → PM n (g j)) {P : Nat} (hP : inG n ct g P) : inG n ct g (bk n P) := by
  obtain ⟨d, hd⟩ := bk_pw hn (inG_PM hn hg hP)
  rw [hd]
  exact inG_pw hn hg hP d
theorem inG_min {S : Nat → Prop} (h0 : S (idn n)) (h1 : ∀ P j, S P → j < ct → S (tm n P (g j))) {P : Nat} (h : inG n ct g P) : S P := by
  obtain ⟨w, hw, rfl⟩ := h
  have key : ∀ (w : List Nat) (X : Nat), (∀ j ∈ w, j < ct) → S X → S (w.foldl (fun q j => tm n q (g j)) X) := by
    intro w
    induction w with
    | nil => intro X _ hX; exact hX
    | cons j w ih => intro X hw hX; exact ih _ (fun i hi => hw i (List.mem_cons_of_mem _ hi)) (h1 X j hX (hw j List.mem_cons_self))
  exact key w _ hw h0
theorem inG_mono {ct' : Nat} {g' : Nat → Nat} (hle : ct ≤ ct') (hg : ∀ j, j < ct → g' j = g j) {P : Nat} (h : inG n ct g P) : inG n ct' g' P :=
  inG_min (S := inG n ct' g') inG_id (fun P j hP hj => by rw [← hg j hj]; exact inG_mg hP (by omega)) h
theorem inG_congr {g' : Nat → Nat} (hg : ∀ j, j < ct → g' j = g j) {P : Nat} : inG n ct g' P ↔ inG n ct g P :=
  ⟨inG_mono (Nat.le_refl _) (fun j hj => (hg j hj).symm), inG_mono (Nat.le_refl _) hg⟩
end GRP
/-! ===== the order of permutations ===== -/
def lexB : Nat → Nat → Nat → Nat → Bool
  | 0, _, _, _ => false
  | k + 1, i, P, Q => Nat.blt (im P i) (im Q i) || (Nat.beq (im P i) (im Q i) && lexB k (i + 1) P Q)
def ck (n m : Nat) : Bool := isP n (pe n m) && (Nat.beq (nu n (pe n m)) m && (Nat.beq (m + 1) (fac n) || lexB n 0 (pe n m) (pe n (m + 1))))
def ckR (n : Nat) : Nat → Nat → Bool
  | 0, _ => true
  | k + 1, m => ck n m && ckR n k (m + 1)
def tC (n P : Nat) : Bool := Nat.blt (nu n P) (fac n) && Nat.beq (pe n (nu n P)) P
def tr (n : Nat) (c : Nat → Bool) : Nat → Nat → Nat → Nat → Bool
  | 0, _, P, _ => c P
  | k + 1, i, P, mb => (List.range n).all (fun y => mb.testBit y || tr n c k (i + 1) (P ||| y * 2 ^ (3 * i)) (mb ||| 2 ^ y))
theorem tr_ok {n : Nat} {c : Nat → Bool} {P : Nat} (hP : PM n P) : ∀ k i Pp mb, i + k = n → tr n c k i Pp mb = true → (∀ j, im Pp j = if j < i then im P j else 0) → (∀ y, mb.testBit y = true ↔ ∃ j, j < i ∧ im P j = y) → Pp < 2 ^ (3 * n) → c P = true
  | 0, i, Pp, mb, hk, ht, hI, _, hb => by
      have e : Pp = P := im_ext n hb hP.1 (fun j hj => by rw [hI j, if_pos (by omega)])
      rw [← e]; exact ht
  | k + 1, i, Pp, mb, hk, ht, hI, hM, hb => by
      have hy := hP.2.1 i (by omega)
      have h1 := List.all_eq_true.mp ht (im P i) (List.mem_range.mpr hy)
      have h2 : mb.testBit (im P i) = false := by
        cases hb9 : mb.testBit (im P i) with
        | false => rfl
        | true =>
          obtain ⟨j, hj, ej⟩ := (hM _).mp hb9
          have := PM_inj hP (show j < n by omega) (show i < n by omega) ej
          omega
      rw [h2, Bool.false_or] at h1
      refine tr_ok hP k (i + 1) _ _ (by omega) h1 (fun j => ?_) (fun y => ?_) (Nat.or_lt_two_pow hb (bd_sh (im_lt _ _) (by omega)))
      · rw [im_or, hI j, im_sh (im_lt _ _)]
        by_cases e : j = i
        · subst e; rw [if_neg (by omega), if_pos rfl, if_pos (by omega), Nat.zero_or]
        · rw [if_neg e, Nat.or_zero]
          by_cases c9 : j < i
          · rw [if_pos c9, if_pos (by omega)]
          · rw [if_neg c9, if_neg (by omega)]
      · rw [Nat.testBit_or, Bool.or_eq_true, hM y, Nat.testBit_two_pow, decide_eq_true_eq]
        constructor
        · rintro (⟨j, h3, h4⟩ | h3)
          · exact ⟨j, by omega, h4⟩
          · exact ⟨i, by omega, h3⟩
        · rintro ⟨j, h3, h4⟩
          by_cases e : j = i
          · subst e; exact Or.inr h4
          · exact Or.inl ⟨j, by omega, h4⟩
theorem tr_all {n : Nat} {c : Nat → Bool} (h : tr n c n 0 0 0 = true) {P : Nat} (hP : PM n P) : c P = true :=
  tr_ok hP n 0 0 0 (by omega) h (fun j => by rw [im_zero, if_neg (by omega)]) (fun y => by rw [Nat.zero_testBit]; exact ⟨fun q => absurd q (by decide), fun ⟨j, hj, _⟩ => absurd hj (Nat.not_lt_zero _)⟩) (Nat.two_pow_pos _)
theorem ckR_at {n : Nat} : ∀ k m, ckR n k m = true → ∀ q, m ≤ q → q < m + k → ck n q = true
  | 0, m, _, q, h1, h2 => by omega
  | k + 1, m, h, q, h1, h2 => by
      have h3 : (ck n m && ckR n k (m + 1)) = true := h
      rw [Bool.and_eq_true] at h3
      by_cases e : q = m
      · rw [e]; exact h3.1
      · exact ckR_at k (m + 1) h3.2 q (by omega) (by omega)
end
section
/-! ===== all permutations of at most seven points, counted out ===== -/
theorem ck1_0 : ckR 1 1 0 = true := by decide +kernel
theorem ck2_0 : ckR 2 2 0 = true := by decide +kernel
theorem ck3_0 : ckR 3 6 0 = true := by decide +kernel
theorem ck4_0 : ckR 4 24 0 = true := by decide +kernel
theorem ck5_0 : ckR 5 120 0 = true := by decide +kernel
theorem ck6_0 : ckR 6 120 0 = true := by decide +kernel
theorem ck6_1 : ckR 6 120 120 = true := by decide +kernel
theorem ck6_2 : ckR 6 120 240 = true := by decide +kernel
theorem ck6_3 : ckR 6 120 360 = true := by decide +kernel
theorem ck6_4 : ckR 6 120 480 = true := by decide +kernel
theorem ck6_5 : ckR 6 120 600 = true := by decide +kernel
theorem ck7_0 : ckR 7 120 0 = true := by decide +kernel
theorem ck7_1 : ckR 7 120 120 = true := by decide +kernel
theorem ck7_2 : ckR 7 120 240 = true := by decide +kernel
theorem ck7_3 : ckR 7 120 360 = true := by decide +kernel
theorem ck7_4 : ckR 7 120 480 = true := by decide +kernel
theorem ck7_5 : ckR 7 120 600 = true := by decide +kernel
theorem ck7_6 : ckR 7 120 720 = true := by decide +kernel
theorem ck7_7 : ckR 7 120 840 = true := by decide +kernel
theorem ck7_8 : ckR 7 120 960 = true := by decide +kernel
theorem ck7_9 : ckR 7 120 1080 = true := by decide +kernel
theorem ck7_10 : ckR 7 120 1200 = true := by decide +kernel
theorem ck7_11 : ckR 7 120 1320 = true := by decide +kernel
theorem ck7_12 : ckR 7 120 1440 = true := by decide +kernel
theorem ck7_13 : ckR 7 120 1560 = true := by decide +kernel
theorem ck7_14 : ckR 7 120 1680 = true := by decide +kernel
theorem ck7_15 : ckR 7 120 1800 = true := by decide +kernel
theorem ck7_16 : ckR 7 120 1920 = true := by decide +kernel
theorem ck7_17 : ckR 7 120 2040 = true := by decide +kernel
theorem ck7_18 : ckR 7 120 2160 = true := by decide +kernel
theorem ck7_19 : ckR 7 120 2280 = true := by decide +kernel
theorem ck7_20 : ckR 7 120 2400 = true := by decide +kernel
theorem ck7_21 : ckR 7 120 2520 = true := by decide +kernel
theorem ck7_22 : ckR 7 120 2640 = true := by decide +kernel
theorem ck7_23 : ckR 7 120 2760 = true := by decide +kernel
theorem ck7_24 : ckR 7 120 2880 = true := by decide +kernel
theorem ck7_25 : ckR 7 120 3000 = true := by decide +kernel
theorem ck7_26 : ckR 7 120 3120 = true := by decide +kernel
theorem ck7_27 : ckR 7 120 3240 = true := by decide +kernel
theorem ck7_28 : ckR 7 120 3360 = true := by decide +kernel
theorem ck7_29 : ckR 7 120 3480 = true := by decide +kernel
theorem ck7_30 : ckR 7 120 3600 = true := by decide +kernel
theorem ck7_31 : ckR 7 120 3720 = true := by decide +kernel
theorem ck7_32 : ckR 7 120 3840 = true := by decide +kernel
theorem ck7_33 : ckR 7 120 3960 = true := by decide +kernel
theorem ck7_34 : ckR 7 120 4080 = true := by decide +kernel
theorem ck7_35 : ckR 7 120 4200 = true := by decide +kernel
theorem ck7_36 : ckR 7 120 4320 = true := by decide +kernel
theorem ck7_37 : ckR 7 120 4440 = true := by decide +kernel
theorem ck7_38 : ckR 7 120 4560 = true := by decide +kernel
theorem ck7_39 : ckR 7 120 4680 = true := by decide +kernel
theorem ck7_40 : ckR 7 120 4800 = true := by decide +kernel
theorem ck7_41 : ckR 7 120 4920 = true := by decide +kernel
theorem tr1 : tr 1 (tC 1) 1 0 0 0 = true := by decide +kernel
theorem tr2 : tr 2 (tC 2) 2 0 0 0 = true := by decide +kernel
theorem tr3 : tr 3 (tC 3) 3 0 0 0 = true := by decide +kernel
theorem tr4 : tr 4 (tC 4) 4 0 0 0 = true := by decide +kernel
theorem tr5 : tr 5 (tC 5) 5 0 0 0 = true := by decide +kernel
theorem tr6 : tr 6 (tC 6) 6 0 0 0 = true := by decide +kernel
theorem tr7_0_1 : tr 7 (tC 7) 5 2 8 3 = true := by decide +kernel
theorem tr7_0_2 : tr 7 (tC 7) 5 2 16 5 = true := by decide +kernel
theorem tr7_0_3 : tr 7 (tC 7) 5 2 24 9 = true := by decide +kernel
theorem tr7_0_4 : tr 7 (tC 7) 5 2 32 17 = true := by decide +kernel
theorem tr7_0_5 : tr 7 (tC 7) 5 2 40 33 = true := by decide +kernel
theorem tr7_0_6 : tr 7 (tC 7) 5 2 48 65 = true := by decide +kernel
theorem tr7_1_0 : tr 7 (tC 7) 5 2 1 3 = true := by decide +kernel
theorem tr7_1_2 : tr 7 (tC 7) 5 2 17 6 = true := by decide +kernel
theorem tr7_1_3 : tr 7 (tC 7) 5 2 25 10 = true := by decide +kernel
theorem tr7_1_4 : tr 7 (tC 7) 5 2 33 18 = true := by decide +kernel
theorem tr7_1_5 : tr 7 (tC 7) 5 2 41 34 = true := by decide +kernel
theorem tr7_1_6 : tr 7 (tC 7) 5 2 49 66 = true := by decide +kernel
theorem tr7_2_0 : tr 7 (tC 7) 5 2 2 5 = true := by decide +kernel
theorem tr7_2_1 : tr 7 (tC 7) 5 2 10 6 = true := by decide +kernel
theorem tr7_2_3 : tr 7 (tC 7) 5 2 26 12 = true := by decide +kernel
theorem tr7_2_4 : tr 7 (tC 7) 5 2 34 20 = true := by decide +kernel
theorem tr7_2_5 : tr 7 (tC 7) 5 2 42 36 = true := by decide +kernel
theorem tr7_2_6 : tr 7 (tC 7) 5 2 50 68 = true := by decide +kernel
theorem tr7_3_0 : tr 7 (tC 7) 5 2 3 9 = true := by decide +kernel
theorem tr7_3_1 : tr 7 (tC 7) 5 2 11 10 = true := by decide +kernel
theorem tr7_3_2 : tr 7 (tC 7) 5 2 19 12 = true := by decide +kernel
theorem tr7_3_4 : tr 7 (tC 7) 5 2 35 24 = true := by decide +kernel
theorem tr7_3_5 : tr 7 (tC 7) 5 2 43 40 = true := by decide +kernel
theorem tr7_3_6 : tr 7 (tC 7) 5 2 51 72 = true := by decide +kernel
theorem tr7_4_0 : tr 7 (tC 7) 5 2 4 17 = true := by decide +kernel
theorem tr7_4_1 : tr 7 (tC 7) 5 2 12 18 = true := by decide +kernel
theorem tr7_4_2 : tr 7 (tC 7) 5 2 20 20 = true := by decide +kernel
theorem tr7_4_3 : tr 7 (tC 7) 5 2 28 24 = true := by decide +kernel
theorem tr7_4_5 : tr 7 (tC 7) 5 2 44 48 = true := by decide +kernel
theorem tr7_4_6 : tr 7 (tC 7) 5 2 52 80 = true := by decide +kernel
theorem tr7_5_0 : tr 7 (tC 7) 5 2 5 33 = true := by decide +kernel
theorem tr7_5_1 : tr 7 (tC 7) 5 2 13 34 = true := by decide +kernel
theorem tr7_5_2 : tr 7 (tC 7) 5 2 21 36 = true := by decide +kernel
theorem tr7_5_3 : tr 7 (tC 7) 5 2 29 40 = true := by decide +kernel
theorem tr7_5_4 : tr 7 (tC 7) 5 2 37 48 = true := by decide +kernel
theorem tr7_5_6 : tr 7 (tC 7) 5 2 53 96 = true := by decide +kernel
theorem tr7_6_0 : tr 7 (tC 7) 5 2 6 65 = true := by decide +kernel
theorem tr7_6_1 : tr 7 (tC 7) 5 2 14 66 = true := by decide +kernel
theorem tr7_6_2 : tr 7 (tC 7) 5 2 22 68 = true := by decide +kernel
theorem tr7_6_3 : tr 7 (tC 7) 5 2 30 72 = true := by decide +kernel
theorem tr7_6_4 : tr 7 (tC 7) 5 2 38 80 = true := by decide +kernel
theorem tr7_6_5 : tr 7 (tC 7) 5 2 46 96 = true := by decide +kernel
end
section
/-! ===== the numbers of permutations, and their order ===== -/
theorem ckA1 {m : Nat} (h : m < 1) : ck 1 m = true := by
  exact ckR_at 1 0 ck1_0 m (by omega) (by omega)
theorem ckA2 {m : Nat} (h : m < 2) : ck 2 m = true := by
  exact ckR_at 2 0 ck2_0 m (by omega) (by omega)
theorem ckA3 {m : Nat} (h : m < 6) : ck 3 m = true := by
  exact ckR_at 6 0 ck3_0 m (by omega) (by omega)
theorem ckA4 {m : Nat} (h : m < 24) : ck 4 m = true := by
  exact ckR_at 24 0 ck4_0 m (by omega) (by omega)
theorem ckA5 {m : Nat} (h : m < 120) : ck 5 m = true := by
  exact ckR_at 120 0 ck5_0 m (by omega) (by omega)
theorem ckA6 {m : Nat} (h : m < 720) : ck 6 m = true := by
  rcases Nat.lt_or_ge m 120 with q | q
  · exact ckR_at 120 0 ck6_0 m (by omega) (by omega)
  rcases Nat.lt_or_ge m 240 with q | q
  · exact ckR_at 120 120 ck6_1 m (by omega) (by omega)
  rcases Nat.lt_or_ge m 360 with q | q
  · exact ckR_at 120 240 ck6_2 m (by omega) (by omega)
  rcases Nat.lt_or_ge m 480 with q | q
  · exact ckR_at 120 360 ck6_3 m (by omega) (by omega)
  rcases Nat.lt_or_ge m 600 with q | q
  · exact ckR_at 120 480 ck6_4 m (by omega) (by omega)
  exact ckR_at 120 600 ck6_5 m (by omega) (by omega)
theorem ckA7 {m : Nat} (h : m < 5040) : ck 7 m = true := by
  rcases Nat.lt_or_ge m 120 with q | q
  · exact ckR_at 120 0 ck7_0 m (by omega) (by omega)
  rcases Nat.lt_or_ge m 240 with q | q
  · exact ckR_at 120 120 ck7_1 m (by omega) (by omega)
  rcases Nat.lt_or_ge m 360 with q | q
  · exact ckR_at 120 240 ck7_2 m (by omega) (by omega)
  rcases Nat.lt_or_ge m 480 with q | q
  · exact ckR_at 120 360 ck7_3 m (by omega) (by omega)
  rcases Nat.lt_or_ge m 600 with q | q
  · exact ckR_at 120 480 ck7_4 m (by omega) (by omega)
  rcases Nat.lt_or_ge m 720 with q | q
  · exact ckR_at 120 600 ck7_5 m (by omega) (by omega)
  rcases Nat.lt_or_ge m 840 with q | q
  · exact ckR_at 120 720 ck7_6 m (by omega) (by omega)
  rcases Nat.lt_or_ge m 960 with q | q
  · exact ckR_at 120 840 ck7_7 m (by omega) (by omega)
  rcases Nat.lt_or_ge m 1080 with q | q
  · exact ckR_at 120 960 ck7_8 m (by omega) (by omega)
  rcases Nat.lt_or_ge m 1200 with q | q
  · exact ckR_at 120 1080 ck7_9 m (by omega) (by omega)
  rcases Nat.lt_or_ge m 1320 with q | q
  · exact ckR_at 120 1200 ck7_10 m (by omega) (by omega)
  rcases Nat.lt_or_ge m 1440 with q | q
  · exact ckR_at 120 1320 ck7_11 m (by omega) (by omega)
  rcases Nat.lt_or_ge m 1560 with q | q
  · exact ckR_at 120 1440 ck7_12 m (by omega) (by omega)
  rcases Nat.lt_or_ge m 1680 with q | q
  · exact ckR_at 120 1560 ck7_13 m (by omega) (by omega)
  rcases Nat.lt_or_ge m 1800 with q | q
  · exact ckR_at 120 1680 ck7_14 m (by omega) (by omega)
  rcases Nat.lt_or_ge m 1920 with q | q
  · exact ckR_at 120 1800 ck7_15 m (by omega) (by omega)
  rcases Nat.lt_or_ge m 2040 with q | q
  · exact ckR_at 120 1920 ck7_16 m (by omega) (by omega)
  rcases Nat.lt_or_ge m 2160 with q | q
  · exact ckR_at 120 2040 ck7_17 m (by omega) (by omega)
  rcases Nat.lt_or_ge m 2280 with q | q
  · exact ckR_at 120 2160 ck7_18 m (by omega) (by omega)
  rcases Nat.lt_or_ge m 2400 with q | q
  · exact ckR_at 120 2280 ck7_19 m (by omega) (by omega)
  rcases Nat.lt_or_ge m 2520 with q | q
  · exact ckR_at 120 2400 ck7_20 m (by omega) (by omega)
  rcases Nat.lt_or_ge m 2640 with q | q
  · exact ckR_at 120 2520 ck7_21 m (by omega) (by omega)
  rcases Nat.lt_or_ge m 2760 with q | q
  · exact ckR_at 120 2640 ck7_22 m (by omega) (by omega)
  rcases Nat.lt_or_ge m 2880 with q | q
  · exact ckR_at 120 2760 ck7_23 m (by omega) (by omega)
  rcases Nat.lt_or_ge m 3000 with q | q
  · exact ckR_at 120 2880 ck7_24 m (by omega) (by omega)
  rcases Nat.lt_or_ge m 3120 with q | q
  · exact ckR_at 120 3000 ck7_25 m (by omega) (by omega)
  rcases Nat.lt_or_ge m 3240 with q | q
  · exact ckR_at 120 3120 ck7_26 m (by omega) (by omega)
  rcases Nat.lt_or_ge m 3360 with q | q
  · exact ckR_at 120 3240 ck7_27 m (by omega) (by omega)
  rcases Nat.lt_or_ge m 3480 with q | q
  · exact ckR_at 120 3360 ck7_28 m (by omega) (by omega)
  rcases Nat.lt_or_ge m 3600 with q | q
  · exact ckR_at 120 3480 ck7_29 m (by omega) (by omega)
  rcases Nat.lt_or_ge m 3720 with q | q
  · exact ckR_at 120 3600 ck7_30 m (by omega) (by omega)
  rcases Nat.lt_or_ge m 3840 with q | q
  · exact ckR_at 120 3720 ck7_31 m (by omega) (by omega)
  rcases Nat.lt_or_ge m 3960 with q | q
  · exact ckR_at 120 3840 ck7_32 m (by omega) (by omega)
  rcases Nat.lt_or_ge m 4080 with q | q
  · exact ckR_at 120 3960 ck7_33 m (by omega) (by omega)
  rcases Nat.lt_or_ge m 4200 with q | q
  · exact ckR_at 120 4080 ck7_34 m (by omega) (by omega)
  rcases Nat.lt_or_ge m 4320 with q | q
  · exact ckR_at 120 4200 ck7_35 m (by omega) (by omega)
  rcases Nat.lt_or_ge m 4440 with q | q
  · exact ckR_at 120 4320 ck7_36 m (by omega) (by omega)
  rcases Nat.lt_or_ge m 4560 with q | q
  · exact ckR_at 120 4440 ck7_37 m (by omega) (by omega)
  rcases Nat.lt_or_ge m 4680 with q | q
  · exact ckR_at 120 4560 ck7_38 m (by omega) (by omega)
  rcases Nat.lt_or_ge m 4800 with q | q
  · exact ckR_at 120 4680 ck7_39 m (by omega) (by omega)
  rcases Nat.lt_or_ge m 4920 with q | q
  · exact ckR_at 120 4800 ck7_40 m (by omega) (by omega)
  exact ckR_at 120 4920 ck7_41 m (by omega) (by omega)
theorem ckA {n m : Nat} (h1 : 1 ≤ n) (h7 : n ≤ 7) (h : m < fac n) : ck n m = true := by
  match n, h1, h7, h with
  | 1, _, _, h => exact ckA1 h
  | 2, _, _, h => exact ckA2 h
  | 3, _, _, h => exact ckA3 h
  | 4, _, _, h => exact ckA4 h
  | 5, _, _, h => exact ckA5 h
  | 6, _, _, h => exact ckA6 h
  | 7, _, _, h => exact ckA7 h
theorem tr7_0 : tr 7 (tC 7) 6 1 0 1 = true := by
  refine List.all_eq_true.mpr (fun z hz => ?_)
  have hz := List.mem_range.mp hz
  match z, hz with
  | 0, _ => exact (Bool.or_eq_true _ _).mpr (Or.inl rfl)
  | 1, _ => exact (Bool.or_eq_true _ _).mpr (Or.inr tr7_0_1)
  | 2, _ => exact (Bool.or_eq_true _ _).mpr (Or.inr tr7_0_2)
  | 3, _ => exact (Bool.or_eq_true _ _).mpr (Or.inr tr7_0_3)
  | 4, _ => exact (Bool.or_eq_true _ _).mpr (Or.inr tr7_0_4)
  | 5, _ => exact (Bool.or_eq_true _ _).mpr (Or.inr tr7_0_5)
  | 6, _ => exact (Bool.or_eq_true _ _).mpr (Or.inr tr7_0_6)
theorem tr7_1 : tr 7 (tC 7) 6 1 1 2 = true := by
  refine List.all_eq_true.mpr (fun z hz => ?_)
  have hz := List.mem_range.mp hz
  match z, hz with
  | 0, _ => exact (Bool.or_eq_true _ _).mpr (Or.inr tr7_1_0)
  | 1, _ => exact (Bool.or_eq_true _ _).mpr (Or.inl rfl)
  | 2, _ => exact (Bool.or_eq_true _ _).mpr (Or.inr tr7_1_2)
  | 3, _ => exact (Bool.or_eq_true _ _).mpr (Or.inr tr7_1_3)
  | 4, _ => exact (Bool.or_eq_true _ _).mpr (Or.inr tr7_1_4)
  | 5, _ => exact (Bool.or_eq_true _ _).mpr (Or.inr tr7_1_5)
  | 6, _ => exact (Bool.or_eq_true _ _).mpr (Or.inr tr7_1_6)
theorem tr7_2 : tr 7 (tC 7) 6 1 2 4 = true := by
  refine List.all_eq_true.mpr (fun z hz => ?_)
  have hz := List.mem_range.mp hz
  match z, hz with
  | 0, _ => exact (Bool.or_eq_true _ _).mpr (Or.inr tr7_2_0)
  | 1, _ => exact (Bool.or_eq_true _ _).mpr (Or.inr tr7_2_1)
  | 2, _ => exact (Bool.or_eq_true _ _).mpr (Or.inl rfl)
  | 3, _ => exact (Bool.or_eq_true _ _).mpr (Or.inr tr7_2_3)
  | 4, _ => exact (Bool.or_eq_true _ _).mpr (Or.inr tr7_2_4)
  | 5, _ => exact (Bool.or_eq_true _ _).mpr (Or.inr tr7_2_5)
  | 6, _ => exact (Bool.or_eq_true _ _).mpr (Or.inr tr7_2_6)
theorem tr7_3 : tr 7 (tC 7) 6 1 3 8 = true := by
  refine List.all_eq_true.mpr (fun z hz => ?_)
  have hz := List.mem_range.mp hz
  match z, hz with
  | 0, _ => exact (Bool.or_eq_true _ _).mpr (Or.inr tr7_3_0)
  | 1, _ => exact (Bool.or_eq_true _ _).mpr (Or.inr tr7_3_1)
  | 2, _ => exact (Bool.or_eq_true _ _).mpr (Or.inr tr7_3_2)
  | 3, _ => exact (Bool.or_eq_true _ _).mpr (Or.inl rfl)
  | 4, _ => exact (Bool.or_eq_true _ _).mpr (Or.inr tr7_3_4)
  | 5, _ => exact (Bool.or_eq_true _ _).mpr (Or.inr tr7_3_5)
  | 6, _ => exact (Bool.or_eq_true _ _).mpr (Or.inr tr7_3_6)
theorem tr7_4 : tr 7 (tC 7) 6 1 4 16 = true := by
  refine List.all_eq_true.mpr (fun z hz => ?_)
  have hz := List.mem_range.mp hz
  match z, hz with
  | 0, _ => exact (Bool.or_eq_true _ _).mpr (Or.inr tr7_4_0)
  | 1, _ => exact (Bool.or_eq_true _ _).mpr (Or.inr tr7_4_1)
  | 2, _ => exact (Bool.or_eq_true _ _).mpr (Or.inr tr7_4_2)
  | 3, _ => exact (Bool.or_eq_true _ _).mpr (Or.inr tr7_4_3)
  | 4, _ => exact (Bool.or_eq_true _ _).mpr (Or.inl rfl)
  | 5, _ => exact (Bool.or_eq_true _ _).mpr (Or.inr tr7_4_5)
  | 6, _ => exact (Bool.or_eq_true _ _).mpr (Or.inr tr7_4_6)
theorem tr7_5 : tr 7 (tC 7) 6 1 5 32 = true := by
  refine List.all_eq_true.mpr (fun z hz => ?_)
  have hz := List.mem_range.mp hz
  match z, hz with
  | 0, _ => exact (Bool.or_eq_true _ _).mpr (Or.inr tr7_5_0)
  | 1, _ => exact (Bool.or_eq_true _ _).mpr (Or.inr tr7_5_1)
  | 2, _ => exact (Bool.or_eq_true _ _).mpr (Or.inr tr7_5_2)
  | 3, _ => exact (Bool.or_eq_true _ _).mpr (Or.inr tr7_5_3)
  | 4, _ => exact (Bool.or_eq_true _ _).mpr (Or.inr tr7_5_4)
  | 5, _ => exact (Bool.or_eq_true _ _).mpr (Or.inl rfl)
  | 6, _ => exact (Bool.or_eq_true _ _).mpr (Or.inr tr7_5_6)
theorem tr7_6 : tr 7 (tC 7) 6 1 6 64 = true := by
  refine List.all_eq_true.mpr (fun z hz => ?_)
  have hz := List.mem_range.mp hz
  match z, hz with
  | 0, _ => exact (Bool.or_eq_true _ _).mpr (Or.inr tr7_6_0)
  | 1, _ => exact (Bool.or_eq_true _ _).mpr (Or.inr tr7_6_1)
  | 2, _ => exact (Bool.or_eq_true _ _).mpr (Or.inr tr7_6_2)
  | 3, _ => exact (Bool.or_eq_true _ _).mpr (Or.inr tr7_6_3)
  | 4, _ => exact (Bool.or_eq_true _ _).mpr (Or.inr tr7_6_4)
  | 5, _ => exact (Bool.or_eq_true _ _).mpr (Or.inr tr7_6_5)
  | 6, _ => exact (Bool.or_eq_true _ _).mpr (Or.inl rfl)
theorem tr7 : tr 7 (tC 7) 7 0 0 0 = true := by
  refine List.all_eq_true.mpr (fun z hz => ?_)
  have hz := List.mem_range.mp hz
  match z, hz with
  | 0, _ => exact (Bool.or_eq_true _ _).mpr (Or.inr tr7_0)
  | 1, _ => exact (Bool.or_eq_true _ _).mpr (Or.inr tr7_1)
  | 2, _ => exact (Bool.or_eq_true _ _).mpr (Or.inr tr7_2)
  | 3, _ => exact (Bool.or_eq_true _ _).mpr (Or.inr tr7_3)
  | 4, _ => exact (Bool.or_eq_true _ _).mpr (Or.inr tr7_4)
  | 5, _ => exact (Bool.or_eq_true _ _).mpr (Or.inr tr7_5)
  | 6, _ => exact (Bool.or_eq_true _ _).mpr (Or.inr tr7_6)
theorem trA {n : Nat} (h1 : 1 ≤ n) (h7 : n ≤ 7) : tr n (tC n) n 0 0 0 = true := by
  match n, h1, h7 with
  | 1, _, _ => exact tr1
  | 2, _, _ => exact tr2
  | 3, _, _ => exact tr3
  | 4, _, _ => exact tr4
  | 5, _, _ => exact tr5
  | 6, _, _ => exact tr6
  | 7, _, _ => exact tr7
def lx (n P Q : Nat) : Prop := ∃ i, i < n ∧ (∀ j, j < i → im P j = im Q j) ∧ im P i < im Q i
theorem lexB_lx {n P Q : Nat} : ∀ k i, i + k = n → (∀ j, j < i → im P j = im Q j) → lexB k i P Q = true → lx n P Q
  | 0, i, _, _, h => by exact absurd (show false = true from h) (by decide)
  | k + 1, i, hk, he, h => by
      have h1 : (Nat.blt (im P i) (im Q i) || (Nat.beq (im P i) (im Q i) && lexB k (i + 1) P Q)) = true := h
      rw [Bool.or_eq_true] at h1
      rcases h1 with h1 | h1
      · exact ⟨i, by omega, he, Nat.blt_eq.mp h1⟩
      · rw [Bool.and_eq_true] at h1
        have e := Nat.eq_of_beq_eq_true h1.1
        refine lexB_lx k (i + 1) (by omega) (fun j hj => ?_) h1.2
        by_cases c : j = i
        · rw [c]; exact e
        · exact he j (by omega)
theorem lx_irr {n P : Nat} (h : lx n P P) : False := by
  obtain ⟨i, -, -, h⟩ := h
  omega
theorem lx_trans {n P Q S : Nat} (h1 : lx n P Q) (h2 : lx n Q S) : lx n P S := by
  obtain ⟨i, hi, hi1, hi2⟩ := h1
  obtain ⟨j, hj, hj1, hj2⟩ := h2
  rcases Nat.lt_trichotomy i j with h | h | h
  · exact ⟨i, hi, fun k hk => (hi1 k hk).trans (hj1 k (by omega)), by rw [← hj1 i h]; exact hi2⟩
  · subst h
    exact ⟨i, hi, fun k hk => (hi1 k hk).trans (hj1 k hk), by omega⟩
  · exact ⟨j, hj, fun k hk => (hi1 k (by omega)).trans (hj1 k hk), by rw [hi1 j h]; exact hj2⟩
theorem lx_tri {n P Q : Nat} (hP : PM n P) (hQ : PM n Q) : lx n P Q ∨ P = Q ∨ lx n Q P := by
  have key : ∀ k, k ≤ n → (∀ j, j < k → im P j = im Q j) ∨ lx n P Q ∨ lx n Q P := by
    intro k
    induction k with
    | zero => intro _; exact Or.inl (fun j hj => absurd hj (Nat.not_lt_zero _))
    | succ k ih =>
      intro hk
      rcases ih (by omega) with h | h
      · rcases Nat.lt_trichotomy (im P k) (im Q k) with c | c | c
        · exact Or.inr (Or.inl ⟨k, by omega, h, c⟩)
        · refine Or.inl (fun j hj => ?_)
          by_cases e : j = k
          · rw [e]; exact c
          · exact h j (by omega)
        · exact Or.inr (Or.inr ⟨k, by omega, fun j hj => (h j hj).symm, c⟩)
      · exact Or.inr h
  rcases key n (Nat.le_refl _) with h | h | h
  · exact Or.inr (Or.inl (PM_ext hP hQ h))
  · exact Or.inl h
  · exact Or.inr (Or.inr h)
section ORD
variable {n : Nat}
theorem ck_parts {m : Nat} (h : ck n m = true) : isP n (pe n m) = true ∧ nu n (pe n m) = m ∧ (m + 1 = fac n ∨ lexB n 0 (pe n m) (pe n (m + 1)) = true) := by
  unfold ck at h
  rw [Bool.and_eq_true, Bool.and_eq_true, Bool.or_eq_true] at h
  exact ⟨h.1, Nat.eq_of_beq_eq_true h.2.1, h.2.2.imp Nat.eq_of_beq_eq_true id⟩
theorem pe_PM (h1 : 1 ≤ n) (h7 : n ≤ 7) {m : Nat} (h : m < fac n) : PM n (pe n m) := isP_PM.mp (ck_parts (ckA h1 h7 h)).1
theorem nu_pe (h1 : 1 ≤ n) (h7 : n ≤ 7) {m : Nat} (h : m < fac n) : nu n (pe n m) = m := (ck_parts (ckA h1 h7 h)).2.1
theorem tC_parts (h1 : 1 ≤ n) (h7 : n ≤ 7) {P : Nat} (hP : PM n P) : nu n P < fac n ∧ pe n (nu n P) = P := by
  have h := tr_all (trA h1 h7) hP
  unfold tC at h
  rw [Bool.and_eq_true] at h
  exact ⟨Nat.blt_eq.mp h.1, Nat.eq_of_beq_eq_true h.2⟩
theorem nu_lt (h1 : 1 ≤ n) (h7 : n ≤ 7) {P : Nat} (hP : PM n P) : nu n P < fac n := (tC_parts h1 h7 hP).1
theorem pe_nu (h1 : 1 ≤ n) (h7 : n ≤ 7) {P : Nat} (hP : PM n P) : pe n (nu n P) = P := (tC_parts h1 h7 hP).2
theorem pe_lx (h1 : 1 ≤ n) (h7 : n ≤ 7) {a : Nat} : ∀ d, a + d + 1 < fac n → lx n (pe n a) (pe n (a + d + 1))
  | 0, h => by
      rcases (ck_parts (ckA h1 h7 (show a < fac n by omega))).2.2 with e | e
      · omega
      · exact lexB_lx n 0 (by omega) (fun j hj => absurd hj (Nat.not_lt_zero _)) e
  | d + 1, h => by
      have h2 := pe_lx h1 h7 (a := a) d (by omega)
      rcases (ck_parts (ckA h1 h7 (show a + d + 1 < fac n by omega))).2.2 with e | e
      · omega
      · exact lx_trans h2 (lexB_lx n 0 (by omega) (fun j hj => absurd hj (Nat.not_lt_zero _)) e)
theorem nu_lx (h1 : 1 ≤ n) (h7 : n ≤ 7) {P Q : Nat} (hP : PM n P) (hQ : PM n Q) : nu n P < nu n Q ↔ lx n P Q := by
  have key : ∀ {P Q : Nat}, PM n P → PM n Q → nu n P < nu n Q → lx n P Q := by
    intro P Q hP hQ h
    have hq := nu_lt h1 h7 hQ
    have h2 := pe_lx h1 h7 (a := nu n P) (nu n Q - nu n P - 1) (by omega)
    rw [show nu n P + (nu n Q - nu n P - 1) + 1 = nu n Q by omega, pe_nu h1 h7 hP, pe_nu h1 h7 hQ] at h2
    exact h2
  refine ⟨key hP hQ, fun h => ?_⟩
  rcases Nat.lt_trichotomy (nu n P) (nu n Q) with c | c | c
  · exact c
  · have e : P = Q := by rw [← pe_nu h1 h7 hP, ← pe_nu h1 h7 hQ, c]
    exact absurd (e ▸ h) (fun q => lx_irr q)
  · exact absurd (lx_trans h (key hQ hP c)) (fun q => lx_irr q)
theorem nu_inj (h1 : 1 ≤ n) (h7 : n ≤ 7) {P Q : Nat} (hP : PM n P) (hQ : PM n Q) (h : nu n P = nu n Q) : P = Q := by rw [← pe_nu h1 h7 hP, ← pe_nu h1 h7 hQ, h]
theorem nu_id (h1 : 1 ≤ n) (h7 : n ≤ 7) : nu n (idn n) = 0 ∧ pe n 0 = idn n := by
  match n, h1, h7 with
  | 1, _, _ => decide
  | 2, _, _ => decide
  | 3, _, _ => decide
  | 4, _, _ => decide
  | 5, _, _ => decide +kernel
  | 6, _, _ => decide +kernel
  | 7, _, _ => decide +kernel
end ORD
end
section
/-! ===== tables of entries, and what is left of a permutation when they are taken off ===== -/
def GG (n : Nat) (G : Nat → Prop) : Prop := G (idn n) ∧ (∀ P, G P → PM n P) ∧ (∀ P Q, G P → G Q → G (tm n P Q)) ∧ ∀ P, G P → G (bk n P)
theorem GG_inG {n ct : Nat} {g : Nat → Nat} (hn : n ≤ 7) (hg : ∀ j, j < ct → PM n (g j)) : GG n (inG n ct g) :=
  ⟨inG_id, fun _ h => inG_PM hn hg h, fun _ _ h1 h2 => inG_mul hn hg h1 h2, fun _ h => inG_bk hn hg h⟩
def FX (lv P : Nat) : Prop := ∀ j, j < lv → im P j = j
theorem FX_0 (P : Nat) : FX 0 P := fun _ h => absurd h (Nat.not_lt_zero _)
theorem FX_tm {n lv P Q : Nat} (hl : lv ≤ n) (h1 : FX lv P) (h2 : FX lv Q) : FX lv (tm n P Q) := fun j hj => by
  rw [tm_im, if_pos (by omega), h1 j hj, h2 j hj]
theorem FX_bk {n lv P : Nat} (hn : n ≤ 7) (hl : lv ≤ n) (hP : PM n P) (h : FX lv P) : FX lv (bk n P) := fun j hj => by
  have := bk_im hn hP (show j < n by omega)
  rw [h j hj] at this
  exact this
theorem FX_id {n lv : Nat} (hn : n ≤ 7) (hl : lv ≤ n) : FX lv (idn n) := fun j hj => by rw [idn_im hn, if_pos (by omega)]
theorem FX_n {n P : Nat} (hn : n ≤ 7) (hP : PM n P) (h : FX n P) : P = idn n := PM_ext hP (PM_id hn) (fun i hi => by rw [h i hi, idn_im hn, if_pos hi])
theorem FX_s {lv P : Nat} (h : FX lv P) (e : im P lv = lv) : FX (lv + 1) P := fun j hj => by
  by_cases c : j = lv
  · rw [c]; exact e
  · exact h j (by omega)
theorem FX_up {lv P : Nat} (h : FX (lv + 1) P) : FX lv P := fun j hj => h j (by omega)
theorem FX_le {a b P : Nat} (hab : a ≤ b) (h : FX b P) : FX a P := fun j hj => h j (by omega)
theorem FX_ge {n lv P : Nat} (hP : PM n P) (h : FX lv P) (hl : lv < n) : lv ≤ im P lv := by
  rcases Nat.lt_or_ge (im P lv) lv with c | c
  · have e := h _ c
    have := PM_inj hP (hP.2.1 lv hl) hl e
    omega
  · exact c
def EN (f : Nat → Int32) (lv x : Nat) : Prop := ¬ f (lv * 8 + x) = -1
def en (f : Nat → Int32) (lv x : Nat) : Nat := tn (f (lv * 8 + x))
def CW (n : Nat) (f : Nat → Int32) (G : Nat → Prop) : Prop :=
  (∀ lv, lv < n → EN f lv lv ∧ en f lv lv = idn n) ∧
  ∀ lv x, lv < n → x < 8 → EN f lv x → x < n ∧ PM n (en f lv x) ∧ FX lv (en f lv x) ∧ im (en f lv x) lv = x ∧ G (en f lv x)
theorem CW_mono {n : Nat} {f : Nat → Int32} {G G' : Nat → Prop} (h : CW n f G) (hG : ∀ P, G P → G' P) : CW n f G' :=
  ⟨h.1, fun lv x h1 h2 h3 => ⟨(h.2 lv x h1 h2 h3).1, (h.2 lv x h1 h2 h3).2.1, (h.2 lv x h1 h2 h3).2.2.1, (h.2 lv x h1 h2 h3).2.2.2.1, hG _ (h.2 lv x h1 h2 h3).2.2.2.2⟩⟩
def exT2 (n : Nat) (f f' : Nat → Int32) : Prop := ∀ lv x, lv < n → x < 8 → EN f lv x → f' (lv * 8 + x) = f (lv * 8 + x)
section SFT
variable {n : Nat} {f f' : Nat → Int32} {G : Nat → Prop}
theorem st_FX {lv r u : Nat} (hn : n ≤ 7) (hl : lv < n) (hr : PM n r) (hu : PM n u) (h1 : FX lv r) (h2 : FX lv u) (e : im u lv = im r lv) : FX (lv + 1) (tm n r (bk n u)) := by
  refine FX_s (FX_tm (by omega) h1 (FX_bk hn (by omega) hu h2)) ?_
  rw [tm_im, if_pos hl, ← e, bk_im hn hu hl]
theorem rs_facts (hn : n ≤ 7) (hG : GG n G) (hC : CW n f G) : ∀ k lv r, lv + k = n → PM n r → FX lv r → PM n (rsF f n k lv r) ∧ (G r ↔ G (rsF f n k lv r)) ∧ (rsF f n k lv r = idn n ∨ ∃ v, lv ≤ v ∧ v < n ∧ FX v (rsF f n k lv r) ∧ im (rsF f n k lv r) v ≠ v ∧ f (v * 8 + im (rsF f n k lv r) v) = -1)
  | 0, lv, r, hk, hr, hf => by
      have e : lv = n := by omega
      subst e
      exact ⟨hr, Iff.rfl, Or.inl (FX_n hn hr hf)⟩
  | k + 1, lv, r, hk, hr, hf => by
      by_cases c : im r lv = lv
      · rw [rsF_eq c]
        obtain ⟨h1, h2, h3⟩ := rs_facts hn hG hC k (lv + 1) r (by omega) hr (FX_s hf c)
        exact ⟨h1, h2, h3.imp id (fun ⟨v, a1, a2⟩ => ⟨v, by omega, a2⟩)⟩
      · by_cases d : f (lv * 8 + im r lv) = -1
        · rw [rsF_no c d]
          exact ⟨hr, Iff.rfl, Or.inr ⟨lv, Nat.le_refl _, by omega, hf, c, d⟩⟩
        · rw [rsF_go c d]
          obtain ⟨-, u1, u2, u3, u4⟩ := hC.2 lv (im r lv) (by omega) (im_lt _ _) d
          have hPM := PM_tm hr (PM_bk hn u1)
          obtain ⟨h1, h2, h3⟩ := rs_facts hn hG hC k (lv + 1) (tm n r (bk n (en f lv (im r lv)))) (by omega) hPM (st_FX hn (by omega) hr u1 hf u2 u3)
          refine ⟨h1, Iff.trans ⟨fun q => hG.2.2.1 _ _ q (hG.2.2.2 _ u4), fun q => ?_⟩ h2, h3.imp id (fun ⟨v, a1, a2⟩ => ⟨v, by omega, a2⟩)⟩
          have := hG.2.2.1 _ _ q u4
          rw [tm_bk_eq hn hr u1] at this
          exact this
theorem rs_id (hn : n ≤ 7) : ∀ k lv, lv + k = n → rsF f n k lv (idn n) = idn n
  | 0, _, _ => rfl
  | k + 1, lv, hk => by
      rw [rsF_eq (by rw [idn_im hn, if_pos (by omega)])]
      exact rs_id hn k (lv + 1) (by omega)
theorem rs_mono (hn : n ≤ 7) (hx : exT2 n f f') : ∀ k lv r, lv + k = n → rsF f n k lv r = idn n → rsF f' n k lv r = idn n
  | 0, _, _, _, h => h
  | k + 1, lv, r, hk, h => by
      by_cases c : im r lv = lv
      · rw [rsF_eq c] at h ⊢
        exact rs_mono hn hx k (lv + 1) r (by omega) h
      · by_cases d : f (lv * 8 + im r lv) = -1
        · rw [rsF_no c d] at h
          rw [h, idn_im hn, if_pos (by omega)] at c
          exact absurd rfl c
        · have e := hx lv (im r lv) (by omega) (im_lt _ _) d
          rw [rsF_go c d] at h
          rw [rsF_go c (by rw [e]; exact d), e]
          exact rs_mono hn hx k (lv + 1) _ (by omega) h
/-- when what is left is entered, nothing is left -/
theorem rs_enter (hn : n ≤ 7) (hC : CW n f G) {s v : Nat} (hv : v < n) (hs : PM n s) (hsf : FX v s) (hsv : im s v ≠ v) (hfv : f (v * 8 + im s v) = -1) (hf' : f' = upd f (v * 8 + im s v) (nI s)) : ∀ k lv r, lv + k = n → PM n r → FX lv r → rsF f n k lv r = s → rsF f' n k lv r = idn n
  | 0, lv, r, hk, hr, hf, e => by
      have e2 : lv = n := by omega
      subst e2
      exact FX_n hn hr hf
  | k + 1, lv, r, hk, hr, hf, e => by
      by_cases c : im r lv = lv
      · rw [rsF_eq c] at e ⊢
        exact rs_enter hn hC hv hs hsf hsv hfv hf' k (lv + 1) r (by omega) hr (FX_s hf c) e
      · by_cases d : f (lv * 8 + im r lv) = -1
        · rw [rsF_no c d] at e
          have ev : v = lv := by
            rcases Nat.lt_trichotomy v lv with q | q | q
            · exact absurd (e ▸ hf v q) hsv
            · exact q
            · exact absurd (e ▸ hsf lv q) c
          have hval : f' (lv * 8 + im r lv) = nI r := by rw [hf', ev, ← e]; exact pk_us
          have hlt := PM_lt hn hr
          rw [rsF_go c (by rw [hval]; exact nb_m1 (by omega)), hval, tn_nI (by omega), tm_bk hn hr]
          exact rs_id hn k (lv + 1) (by omega)
        · obtain ⟨-, u1, u2, u3, -⟩ := hC.2 lv (im r lv) (by omega) (im_lt _ _) d
          have hne : lv * 8 + im r lv ≠ v * 8 + im s v := fun q => d (by rw [q]; exact hfv)
          have hval : f' (lv * 8 + im r lv) = f (lv * 8 + im r lv) := by rw [hf']; exact pk_un hne
          rw [rsF_go c d] at e
          rw [rsF_go c (by rw [hval]; exact d), hval]
          exact rs_enter hn hC hv hs hsf hsv hfv hf' k (lv + 1) _ (by omega) (PM_tm hr (PM_bk hn u1)) (st_FX hn (by omega) hr u1 hf u2 u3) e
theorem enL_id (hn : n ≤ 7) : ∀ k lv u, lv + k = n → enL (idn n) k lv u = u
  | 0, _, _, _ => rfl
  | k + 1, lv, u, hk => by
      show (if im (idn n) lv = lv then enL (idn n) k (lv + 1) u else _) = u
      rw [if_pos (by rw [idn_im hn, if_pos (by omega)])]
      exact enL_id hn k (lv + 1) u (by omega)
theorem enL_at {s v : Nat} (hsf : FX v s) (hsv : im s v ≠ v) : ∀ k lv u, lv ≤ v → v < lv + k → enL s k lv u = ntS (v * 8 + im s v) (upd u.1 (v * 8 + im s v) (nI s), u.2.1, u.2.2)
  | 0, _, _, h1, h2 => by omega
  | k + 1, lv, u, h1, h2 => by
      show (if im s lv = lv then enL s k (lv + 1) u else ntS (lv * 8 + im s lv) (upd u.1 (lv * 8 + im s lv) (nI s), u.2.1, u.2.2)) = _
      by_cases c : lv = v
      · subst c
        rw [if_neg hsv]
      · rw [if_pos (hsf lv (by omega))]
        exact enL_at hsf hsv k (lv + 1) u (by omega) (by omega)
/-! ===== when products of entries leave nothing, the products of the levels are a group ===== -/
/-- the permutations that the entries of the levels from lv on make -/
def MM (n : Nat) (f : Nat → Int32) (lv P : Nat) : Prop := PM n P ∧ FX lv P ∧ rsF f n (n - lv) lv P = idn n
theorem MM_id (hn : n ≤ 7) {lv : Nat} (hl : lv ≤ n) : MM n f lv (idn n) := ⟨PM_id hn, FX_id hn hl, rs_id hn _ _ (by omega)⟩
/-- taken apart: one of the next level, then an entry -/
theorem MM_split (hn : n ≤ 7) (hC : CW n f G) {lv P : Nat} (hl : lv < n) (h : MM n f lv P) : ∃ X, MM n f (lv + 1) X ∧ EN f lv (im P lv) ∧ P = tm n X (en f lv (im P lv)) := by
  obtain ⟨h1, h2, h3⟩ := h
  rw [show n - lv = (n - (lv + 1)) + 1 by omega] at h3
  by_cases c : im P lv = lv
  · rw [rsF_eq c] at h3
    refine ⟨P, ⟨h1, FX_s h2 c, h3⟩, by rw [c]; exact (hC.1 lv hl).1, by rw [c, (hC.1 lv hl).2, tm_id hn h1]⟩
  · by_cases d : f (lv * 8 + im P lv) = -1
    · rw [rsF_no c d] at h3
      rw [h3, idn_im hn, if_pos hl] at c
      exact absurd rfl c
    · obtain ⟨-, u1, u2, u3, -⟩ := hC.2 lv (im P lv) hl (im_lt _ _) d
      rw [rsF_go c d] at h3
      exact ⟨tm n P (bk n (en f lv (im P lv))), ⟨PM_tm h1 (PM_bk hn u1), st_FX hn hl h1 u1 h2 u2 u3, h3⟩, d, (tm_bk_eq hn h1 u1).symm⟩
theorem MM_cons (hn : n ≤ 7) (hC : CW n f G) {lv X x : Nat} (hl : lv < n) (hX : MM n f (lv + 1) X) (hx : x < 8) (hE : EN f lv x) : MM n f lv (tm n X (en f lv x)) := by
  obtain ⟨-, u1, u2, u3, -⟩ := hC.2 lv x hl hx hE
  have e : im (tm n X (en f lv x)) lv = x := by rw [tm_im, if_pos hl, hX.2.1 lv (by omega), u3]
  refine ⟨PM_tm hX.1 u1, FX_tm (by omega) (FX_up hX.2.1) u2, ?_⟩
  rw [show n - lv = (n - (lv + 1)) + 1 by omega]
  by_cases c : x = lv
  · subst c
    rw [rsF_eq e, (hC.1 x hl).2, tm_id hn hX.1]
    exact hX.2.2
  · rw [rsF_go (by rw [e]; exact c) (by rw [e]; exact hE), e]
    show rsF f n (n - (lv + 1)) (lv + 1) (tm n (tm n X (en f lv x)) (bk n (en f lv x))) = _
    rw [tm_assoc hX.1 u1 (PM_bk hn u1), tm_bk hn u1, tm_id hn hX.1]
    exact hX.2.2
/-- a higher level's is a lower level's too -/
theorem MM_down (hn : n ≤ 7) (hC : CW n f G) {lv X : Nat} (hl : lv < n) (hX : MM n f (lv + 1) X) : MM n f lv X := by
  have h := MM_cons hn hC hl hX (show lv < 8 by omega) (hC.1 lv hl).1
  rw [(hC.1 lv hl).2, tm_id hn hX.1] at h
  exact h
theorem MM_le (hn : n ≤ 7) (hC : CW n f G) {X : Nat} : ∀ d a, a + d ≤ n → MM n f (a + d) X → MM n f a X
  | 0, _, _, h => h
  | d + 1, a, hd, h => MM_le hn hC d a (by omega) (MM_down hn hC (by omega) h)
/-- entries make themselves -/
theorem MM_en (hn : n ≤ 7) (hC : CW n f G) {lv x : Nat} (hl : lv < n) (hx : x < 8) (hE : EN f lv x) : MM n f lv (en f lv x) := by
  have h := MM_cons hn hC hl (MM_id hn (f := f) (show lv + 1 ≤ n by omega)) hx hE
  rw [id_tm hn (hC.2 lv x hl hx hE).2.1] at h
  exact h
/-- all levels' products of two entries are made of entries -/
def CL (n : Nat) (f : Nat → Int32) : Prop := ∀ a x b y, a ≤ b → b < n → x < 8 → y < 8 → EN f a x → EN f b y → MM n f a (tm n (en f a x) (en f b y))
theorem MM_mul1 (hn : n ≤ 7) (hC : CW n f G) (hL : CL n f) : ∀ k lv, lv + k = n → ∀ P b y, MM n f lv P → lv ≤ b → b < n → y < 8 → EN f b y → MM n f lv (tm n P (en f b y))
  | 0, lv, hk, P, b, y, _, h1, h2, _, _ => by omega
  | k + 1, lv, hk, P, b, y, hP, h1, h2, hy, hE => by
      have ih := MM_mul1 hn hC hL k (lv + 1) (by omega)
      -- the next level's are closed under products
      have mul : ∀ d c, c + d = n → lv + 1 ≤ c → ∀ X Y, MM n f (lv + 1) X → MM n f c Y → MM n f (lv + 1) (tm n X Y) := by
        intro d
        induction d with
        | zero =>
          intro c hc _ X Y hX hY
          have e : c = n := by omega
          subst e
          rw [FX_n hn hY.1 hY.2.1, tm_id hn hX.1]
          exact hX
        | succ d ihd =>
          intro c hc hlc X Y hX hY
          obtain ⟨Z, hZ, hZE, hYe⟩ := MM_split hn hC (show c < n by omega) hY
          have hu := (hC.2 c (im Y c) (by omega) (im_lt _ _) hZE).2.1
          have h3 := ih _ c (im Y c) (ihd (c + 1) (by omega) (by omega) X Z hX hZ) hlc (by omega) (im_lt _ _) hZE
          rw [tm_assoc hX.1 hZ.1 hu, ← hYe] at h3
          exact h3
      obtain ⟨X, hX, hXE, hPe⟩ := MM_split hn hC (show lv < n by omega) hP
      have hu := (hC.2 lv (im P lv) (by omega) (im_lt _ _) hXE).2.1
      have ht := (hC.2 b y h2 hy hE).2.1
      have hut := hL lv (im P lv) b y h1 h2 (im_lt _ _) hy hXE hE
      obtain ⟨Y, hY, hYE, hYe⟩ := MM_split hn hC (show lv < n by omega) hut
      have hv := (hC.2 lv _ (by omega) (im_lt _ _) hYE).2.1
      have h4 := MM_cons hn hC (show lv < n by omega) (mul (n - (lv + 1)) (lv + 1) (by omega) (Nat.le_refl _) X Y hX hY) (im_lt _ _) hYE
      rw [tm_assoc hX.1 hY.1 hv, ← hYe, ← tm_assoc hX.1 hu ht, ← hPe] at h4
      exact h4
theorem MM_mul (hn : n ≤ 7) (hC : CW n f G) (hL : CL n f) {lv : Nat} : ∀ d c, c + d = n → lv ≤ c → ∀ X Y, MM n f lv X → MM n f c Y → MM n f lv (tm n X Y)
  | 0, c, hc, _, X, Y, hX, hY => by
      have e : c = n := by omega
      subst e
      rw [FX_n hn hY.1 hY.2.1, tm_id hn hX.1]
      exact hX
  | d + 1, c, hc, hlc, X, Y, hX, hY => by
      obtain ⟨Z, hZ, hZE, hYe⟩ := MM_split hn hC (show c < n by omega) hY
      have hu := (hC.2 c (im Y c) (by omega) (im_lt _ _) hZE).2.1
      have h3 := MM_mul1 hn hC hL (n - lv) lv (by omega) _ c (im Y c) (MM_mul hn hC hL d (c + 1) (by omega) (by omega) X Z hX hZ) hlc (by omega) (im_lt _ _) hZE
      rw [tm_assoc hX.1 hZ.1 hu, ← hYe] at h3
      exact h3
end SFT
/-- the table is the group's -/
def VC (n : Nat) (f : Nat → Int32) (G : Nat → Prop) : Prop := CW n f G ∧ ∀ P, G P → rs f n P = idn n
theorem VC_of {n ct : Nat} {f : Nat → Int32} {g : Nat → Nat} (hn : n ≤ 7) (hg : ∀ j, j < ct → PM n (g j)) (hC : CW n f (inG n ct g)) (hL : CL n f) (hs : ∀ j, j < ct → rs f n (g j) = idn n) : VC n f (inG n ct g) := by
  refine ⟨hC, fun P hP => ?_⟩
  have key : ∀ P, inG n ct g P → MM n f 0 P := fun P hP => inG_min (S := MM n f 0) (MM_id hn (Nat.zero_le _)) (fun P j h hj => MM_mul hn hC hL n 0 (by omega) (Nat.le_refl _) P (g j) h ⟨hg j hj, FX_0 _, hs j hj⟩) hP
  exact (key P hP).2.2
theorem VC_iff {n : Nat} {f : Nat → Int32} {G : Nat → Prop} (hn : n ≤ 7) (hG : GG n G) (h : VC n f G) {P : Nat} (hP : PM n P) : rs f n P = idn n ↔ G P := by
  refine ⟨fun q => ?_, h.2 P⟩
  have := (rs_facts hn hG h.1 n 0 P (by omega) hP (FX_0 _)).2.1
  rw [this, show rsF f n n 0 P = idn n from q]
  exact hG.1
theorem VC_MM {n : Nat} {f : Nat → Int32} {G : Nat → Prop} (hn : n ≤ 7) (hG : GG n G) (h : VC n f G) {P : Nat} : MM n f 0 P ↔ G P :=
  ⟨fun q => (VC_iff hn hG h q.1).mp q.2.2, fun q => ⟨hG.2.1 P q, FX_0 _, h.2 P q⟩⟩
end
section
/-! ===== the noted slots ===== -/
def OD (n s : Nat) : Prop := s / 8 < s % 8 ∧ s % 8 < n
def ODl (n : Nat) : List Nat := (List.range 56).filter (fun s => Nat.blt (s / 8) (s % 8) && Nat.blt (s % 8) n)
theorem ODl_mem {n s : Nat} (hn : n ≤ 7) : s ∈ ODl n ↔ OD n s := by
  unfold ODl OD
  rw [List.mem_filter, List.mem_range, Bool.and_eq_true, Nat.blt_eq, Nat.blt_eq]
  constructor
  · exact fun h => h.2
  · exact fun h => ⟨by omega, h⟩
theorem ODl_len : ∀ n, n ≤ 7 → (ODl n).length = n * (n - 1) / 2 := by decide +kernel
theorem OD_21 {n : Nat} (hn : n ≤ 7) : n * (n - 1) / 2 ≤ 21 := by
  have : n * (n - 1) ≤ 7 * 6 := Nat.mul_le_mul hn (by omega)
  omega
/-- what is noted: filled slots off the diagonal, each once, and below B all of them -/
def LIp (n B : Nat) (u : CS) : Prop := (∀ j, j < u.2.2 → ∃ s, s < B ∧ OD n s ∧ u.2.1 j = nI s ∧ ¬ u.1 s = -1) ∧ (∀ i j, i < u.2.2 → j < u.2.2 → u.2.1 i = u.2.1 j → i = j) ∧ ∀ s, s < B → OD n s → ¬ u.1 s = -1 → ∃ j, j < u.2.2 ∧ u.2.1 j = nI s
def LI (n : Nat) (u : CS) : Prop := LIp n 56 u
theorem OD_lt {n s : Nat} (hn : n ≤ 7) (h : OD n s) : s < 56 := by unfold OD at h; omega
theorem LI_nodup {n B : Nat} {u : CS} (hB : B ≤ 56) (h : LIp n B u) : ((List.range u.2.2).map (fun j => tn (u.2.1 j))).Nodup := by
  refine List.pairwise_map.mpr (List.Pairwise.imp_of_mem ?_ List.pairwise_lt_range)
  intro a b ha hb hab e
  have := h.2.1 a b (List.mem_range.mp ha) (List.mem_range.mp hb) (by rw [← nI_tn (u.2.1 a), ← nI_tn (u.2.1 b), e])
  omega
theorem LI_sub {n B : Nat} {u : CS} (hn : n ≤ 7) (h : LIp n B u) : (List.range u.2.2).map (fun j => tn (u.2.1 j)) ⊆ ODl n := by
  intro s hs
  obtain ⟨j, hj, rfl⟩ := List.mem_map.mp hs
  obtain ⟨z, -, h2, h3, -⟩ := h.1 j (List.mem_range.mp hj)
  have := OD_lt hn h2
  show tn (u.2.1 j) ∈ ODl n
  rw [h3, tn_nI (by omega)]
  exact (ODl_mem hn).mpr h2
/-- a slot that isn't noted leaves room -/
theorem LI_room {n B s : Nat} {u : CS} (hn : n ≤ 7) (hB : B ≤ 56) (h : LIp n B u) (hs : OD n s) (hno : ∀ j, j < u.2.2 → u.2.1 j ≠ nI s) : u.2.2 < n * (n - 1) / 2 := by
  have hnd : (s :: (List.range u.2.2).map (fun j => tn (u.2.1 j))).Nodup := by
    refine List.nodup_cons.mpr ⟨fun hm => ?_, LI_nodup hB h⟩
    obtain ⟨j, hj, e⟩ := List.mem_map.mp hm
    exact hno j (List.mem_range.mp hj) (by rw [← e]; exact (nI_tn _).symm)
  have hsub : (s :: (List.range u.2.2).map (fun j => tn (u.2.1 j))) ⊆ ODl n := by
    intro z hz
    rcases List.mem_cons.mp hz with rfl | hz
    · exact (ODl_mem hn).mpr hs
    · exact LI_sub hn h hz
  have := List.Nodup.length_le_of_subset hnd hsub
  rw [List.length_cons, List.length_map, List.length_range, ODl_len n hn] at this
  omega
theorem LI_le {n B : Nat} {u : CS} (hn : n ≤ 7) (hB : B ≤ 56) (h : LIp n B u) : u.2.2 ≤ n * (n - 1) / 2 := by
  have := List.Nodup.length_le_of_subset (LI_nodup hB h) (LI_sub hn h)
  rw [List.length_map, List.length_range, ODl_len n hn] at this
  exact this
/-- when full, every slot is filled -/
theorem LI_full {n s : Nat} {u : CS} (hn : n ≤ 7) (h : LI n u) (hf : n * (n - 1) / 2 ≤ u.2.2) (hs : OD n s) : ¬ u.1 s = -1 := by
  refine Classical.byContradiction (fun hc => ?_)
  have hc : u.1 s = -1 := Classical.byContradiction hc
  have := LI_room hn (Nat.le_refl _) h hs (fun j hj e => by
    obtain ⟨z, h1, h2, h3, h4⟩ := h.1 j hj
    have hz := OD_lt hn h2
    have hs' := OD_lt hn hs
    have : z = s := nI_inj32 (by omega) (by omega) (h3.symm.trans e)
    rw [this] at h4
    exact h4 hc)
  omega
theorem sOK_LI {n : Nat} {u : CS} (hn : n ≤ 7) (h : LI n u) : sOK u := ⟨Nat.le_trans (LI_le hn (Nat.le_refl _) h) (OD_21 hn), fun j hj => by
  obtain ⟨s, h1, h2, h3, -⟩ := h.1 j hj
  exact ⟨s, h1, h3⟩⟩
/-! ===== listFilled ===== -/
theorem LIp_jump {n B B' : Nat} {u : CS} (h : LIp n B u) (hB : B ≤ B') (hno : ∀ s, B ≤ s → s < B' → ¬ OD n s) : LIp n B' u :=
  ⟨fun j hj => by
    obtain ⟨s, h1, h2⟩ := h.1 j hj
    exact ⟨s, by omega, h2⟩, h.2.1, fun s h1 h2 h3 => by
    rcases Nat.lt_or_ge s B with q | q
    · exact h.2.2 s q h2 h3
    · exact absurd h2 (hno s q h1)⟩
theorem LIp_skip {n B : Nat} {u : CS} (h : LIp n B u) (hs : u.1 B = -1) : LIp n (B + 1) u :=
  ⟨fun j hj => by
    obtain ⟨s, h1, h2⟩ := h.1 j hj
    exact ⟨s, by omega, h2⟩, h.2.1, fun s h1 h2 h3 => by
    by_cases e : s = B
    · rw [e] at h3; exact absurd hs h3
    · exact h.2.2 s (by omega) h2 h3⟩
theorem LIp_note {n B : Nat} {u : CS} (hn : n ≤ 7) (hB : B < 56) (h : LIp n B u) (ho : OD n B) (hs : ¬ u.1 B = -1) : LIp n (B + 1) (ntS B u) := by
  have hno : ∀ j, j < u.2.2 → u.2.1 j ≠ nI B := fun j hj e => by
    obtain ⟨z, h1, h2, h3, -⟩ := h.1 j hj
    have := nI_inj32 (show z < 2 ^ 32 by omega) (show B < 2 ^ 32 by omega) (h3.symm.trans e)
    omega
  have hr := LI_room hn (by omega) h ho hno
  have h21 := OD_21 hn
  have e : ntS B u = (u.1, upd u.2.1 u.2.2 (nI B), u.2.2 + 1) := if_pos (by omega)
  rw [e]
  refine ⟨fun j hj => ?_, fun i j hi hj hij => ?_, fun s h1 h2 h3 => ?_⟩
  · by_cases c : j = u.2.2
    · exact ⟨B, by omega, ho, by show upd u.2.1 u.2.2 (nI B) j = _; rw [c]; exact pk_us, hs⟩
    · obtain ⟨s, a1, a2, a3, a4⟩ := h.1 j (by have : j < u.2.2 + 1 := hj; omega)
      exact ⟨s, by omega, a2, by show upd u.2.1 u.2.2 (nI B) j = _; rw [pk_un c]; exact a3, a4⟩
  · have hi : i < u.2.2 + 1 := hi
    have hj : j < u.2.2 + 1 := hj
    have hij : upd u.2.1 u.2.2 (nI B) i = upd u.2.1 u.2.2 (nI B) j := hij
    by_cases ci : i = u.2.2 <;> by_cases cj : j = u.2.2
    · omega
    · rw [ci, pk_us, pk_un cj] at hij
      exact absurd hij.symm (hno j (by omega))
    · rw [cj, pk_us, pk_un ci] at hij
      exact absurd hij (hno i (by omega))
    · rw [pk_un ci, pk_un cj] at hij
      exact h.2.1 i j (by omega) (by omega) hij
  · by_cases c : s = B
    · exact ⟨u.2.2, Nat.lt_succ_self _, by show upd u.2.1 u.2.2 (nI B) u.2.2 = _; rw [c]; exact pk_us⟩
    · obtain ⟨j, a1, a2⟩ := h.2.2 s (by omega) h2 h3
      exact ⟨j, Nat.lt_succ_of_lt a1, by show upd u.2.1 u.2.2 (nI B) j = _; rw [pk_un (by omega)]; exact a2⟩
theorem lfI_inv {n lv : Nat} (hn : n ≤ 7) (hlv : lv < n) : ∀ k x u, x + k = n → lv < x → LIp n (lv * 8 + x) u → LIp n (lv * 8 + n) (lfI lv k x u) ∧ (lfI lv k x u).1 = u.1
  | 0, x, u, hk, hx, h => by
      have e : x = n := by omega
      subst e
      exact ⟨h, rfl⟩
  | k + 1, x, u, hk, hx, h => by
      have ho : OD n (lv * 8 + x) := by unfold OD; omega
      by_cases c : u.1 (lv * 8 + x) = -1
      · rw [lfI_n c]
        exact lfI_inv hn hlv k (x + 1) u (by omega) (by omega) (LIp_skip h c)
      · rw [lfI_y c]
        obtain ⟨h1, h2⟩ := lfI_inv hn hlv k (x + 1) _ (by omega) (by omega) (LIp_note hn (B := lv * 8 + x) (by omega) h ho c)
        exact ⟨h1, h2.trans (ntS_1 _ _)⟩
theorem lfF_inv {n : Nat} (hn : n ≤ 7) : ∀ k lv u, lv + k = n → LIp n (lv * 8) u → LI n (lfF n k lv u) ∧ (lfF n k lv u).1 = u.1
  | 0, lv, u, hk, h => by
      have e : lv = n := by omega
      subst e
      exact ⟨LIp_jump h (by omega) (fun s h1 h2 h3 => by unfold OD at h3; omega), rfl⟩
  | k + 1, lv, u, hk, h => by
      have h1 : LIp n (lv * 8 + (lv + 1)) u := LIp_jump h (by omega) (fun s a1 a2 a3 => by unfold OD at a3; omega)
      obtain ⟨h2, h3⟩ := lfI_inv hn (by omega) (n - (lv + 1)) (lv + 1) u (by omega) (by omega) h1
      obtain ⟨h4, h5⟩ := lfF_inv hn k (lv + 1) _ (by omega) (LIp_jump h2 (by omega) (fun s a1 a2 a3 => by unfold OD at a3; omega))
      exact ⟨h4, h5.trans h3⟩
theorem lf_inv {n : Nat} (hn : n ≤ 7) (f fl : Nat → Int32) : LI n (lfF n n 0 (f, fl, 0)) ∧ (lfF n n 0 (f, fl, 0)).1 = f :=
  lfF_inv hn n 0 (f, fl, 0) (by omega) ⟨fun j hj => absurd hj (Nat.not_lt_zero _), fun i j hi => absurd hi (Nat.not_lt_zero _), fun s hs => by omega⟩
/-! ===== entering ===== -/
/-- from u to v: more entries, more notes -/
def ST (n : Nat) (G : Nat → Prop) (u v : CS) : Prop := LI n v ∧ CW n v.1 G ∧ exT2 n u.1 v.1 ∧ (∀ j, j < u.2.2 → v.2.1 j = u.2.1 j) ∧ u.2.2 ≤ v.2.2
theorem ST_rf {n : Nat} {G : Nat → Prop} {u : CS} (h1 : LI n u) (h2 : CW n u.1 G) : ST n G u u := ⟨h1, h2, fun _ _ _ _ _ => rfl, fun _ _ => rfl, Nat.le_refl _⟩
theorem exT2_tr {n : Nat} {f f' f'' : Nat → Int32} (h1 : exT2 n f f') (h2 : exT2 n f' f'') : exT2 n f f'' := fun lv x a b c => by
  have e := h1 lv x a b c
  rw [h2 lv x a b (by unfold EN; rw [e]; exact c), e]
theorem ST_tr {n : Nat} {G : Nat → Prop} {u v w : CS} (h1 : ST n G u v) (h2 : ST n G v w) : ST n G u w :=
  ⟨h2.1, h2.2.1, exT2_tr h1.2.2.1 h2.2.2.1, fun j hj => (h2.2.2.2.1 j (Nat.lt_of_lt_of_le hj h1.2.2.2.2)).trans (h1.2.2.2.1 j hj), Nat.le_trans h1.2.2.2.2 h2.2.2.2.2⟩
theorem CW_upd {n : Nat} {f : Nat → Int32} {G : Nat → Prop} (hn : n ≤ 7) (hC : CW n f G) {s v : Nat} (hv : v < n) (hs : PM n s) (hsf : FX v s) (hfv : f (v * 8 + im s v) = -1) (hGs : G s) : CW n (upd f (v * 8 + im s v) (nI s)) G := by
  have hlt := PM_lt hn hs
  have h8 := im_lt s v
  refine ⟨fun lv hl => ?_, fun lv x hl hx hE => ?_⟩
  · have hd := hC.1 lv hl
    have hne : lv * 8 + lv ≠ v * 8 + im s v := fun q => hd.1 (by rw [q]; exact hfv)
    unfold EN en at hd ⊢
    rw [pk_un hne]
    exact hd
  · by_cases c : lv = v ∧ x = im s v
    · obtain ⟨rfl, rfl⟩ := c
      have e : en (upd f (lv * 8 + im s lv) (nI s)) lv (im s lv) = s := by unfold en; rw [pk_us, tn_nI (by omega)]
      rw [e]
      exact ⟨hs.2.1 lv hl, hs, hsf, rfl, hGs⟩
    · have hne : lv * 8 + x ≠ v * 8 + im s v := by omega
      have e : upd f (v * 8 + im s v) (nI s) (lv * 8 + x) = f (lv * 8 + x) := pk_un hne
      unfold EN at hE
      rw [e] at hE
      have := hC.2 lv x hl hx hE
      unfold en at this ⊢
      rw [e]
      exact this
theorem en_inv {n P : Nat} {G : Nat → Prop} {u : CS} (hn : n ≤ 7) (hG : GG n G) (hL : LI n u) (hC : CW n u.1 G) (hP : G P) : ST n G u (enS n P u) ∧ rs (enS n P u).1 n P = idn n := by
  have hPM := hG.2.1 P hP
  obtain ⟨h1, h2, h3⟩ := rs_facts hn hG hC n 0 P (by omega) hPM (FX_0 _)
  have hGs : G (rs u.1 n P) := h2.mp hP
  rcases h3 with e | ⟨v, -, hv, hsf, hsv, hfv⟩
  · have e : rs u.1 n P = idn n := e
    have e2 : enS n P u = u := by unfold enS; rw [e]; exact enL_id hn n 0 u (by omega)
    rw [e2]
    exact ⟨ST_rf hL hC, e⟩
  · generalize hs : rs u.1 n P = s at hGs
    rw [show rsF u.1 n n 0 P = s from hs] at h1 hsf hsv hfv
    have e2 : enS n P u = ntS (v * 8 + im s v) (upd u.1 (v * 8 + im s v) (nI s), u.2.1, u.2.2) := by unfold enS; rw [hs]; exact enL_at hsf hsv n 0 u (by omega) (by omega)
    have hge := FX_ge h1 hsf hv
    have hxn := h1.2.1 v hv
    have hlt := PM_lt hn h1
    have ho : OD n (v * 8 + im s v) := by unfold OD; omega
    have hno : ∀ j, j < u.2.2 → u.2.1 j ≠ nI (v * 8 + im s v) := fun j hj q => by
      obtain ⟨z, a1, a2, a3, a4⟩ := hL.1 j hj
      have : z = v * 8 + im s v := nI_inj32 (by omega) (by omega) (a3.symm.trans q)
      rw [this] at a4
      exact a4 hfv
    have hr := LI_room hn (Nat.le_refl _) hL ho hno
    have h21 := OD_21 hn
    have e3 : enS n P u = (upd u.1 (v * 8 + im s v) (nI s), upd u.2.1 u.2.2 (nI (v * 8 + im s v)), u.2.2 + 1) := by rw [e2]; exact if_pos (show u.2.2 < 21 by omega)
    have hx : exT2 n u.1 (upd u.1 (v * 8 + im s v) (nI s)) := fun lv x a b c => pk_un (fun q => c (by rw [q]; exact hfv))
    have hC' := CW_upd hn hC hv h1 hsf hfv hGs
    rw [e3]
    refine ⟨⟨⟨fun j hj => ?_, fun i j hi hj hij => ?_, fun z a1 a2 a3 => ?_⟩, hC', hx, fun j hj => pk_un (by omega), Nat.le_succ _⟩, ?_⟩
    · by_cases c : j = u.2.2
      · refine ⟨v * 8 + im s v, by omega, ho, by show upd u.2.1 u.2.2 _ j = _; rw [c]; exact pk_us, ?_⟩
        show ¬ upd u.1 (v * 8 + im s v) (nI s) (v * 8 + im s v) = -1
        rw [pk_us]
        exact nb_m1 (by omega)
      · obtain ⟨z, a1, a2, a3, a4⟩ := hL.1 j (by have : j < u.2.2 + 1 := hj; omega)
        refine ⟨z, a1, a2, by show upd u.2.1 u.2.2 _ j = _; rw [pk_un c]; exact a3, ?_⟩
        show ¬ upd u.1 (v * 8 + im s v) (nI s) z = -1
        rw [pk_un (fun q => a4 (by rw [q]; exact hfv))]
        exact a4
    · have hi : i < u.2.2 + 1 := hi
      have hj : j < u.2.2 + 1 := hj
      have hij : upd u.2.1 u.2.2 (nI (v * 8 + im s v)) i = upd u.2.1 u.2.2 (nI (v * 8 + im s v)) j := hij
      by_cases ci : i = u.2.2 <;> by_cases cj : j = u.2.2
      · omega
      · rw [ci, pk_us, pk_un cj] at hij
        exact absurd hij.symm (hno j (by omega))
      · rw [cj, pk_us, pk_un ci] at hij
        exact absurd hij (hno i (by omega))
      · rw [pk_un ci, pk_un cj] at hij
        exact hL.2.1 i j (by omega) (by omega) hij
    · by_cases c : z = v * 8 + im s v
      · exact ⟨u.2.2, Nat.lt_succ_self _, by show upd u.2.1 u.2.2 _ u.2.2 = _; rw [c]; exact pk_us⟩
      · have a3 : ¬ upd u.1 (v * 8 + im s v) (nI s) z = -1 := a3
        rw [pk_un c] at a3
        obtain ⟨j, b1, b2⟩ := hL.2.2 z a1 a2 a3
        exact ⟨j, Nat.lt_succ_of_lt b1, by show upd u.2.1 u.2.2 _ j = _; rw [pk_un (by omega)]; exact b2⟩
    · exact rs_enter hn hC hv h1 hsf hsv hfv rfl n 0 P (by omega) hPM (FX_0 _) hs
/-! ===== products of noted entries ===== -/
def PC (n : Nat) (u : CS) (a b : Nat) : Prop := tn (u.2.1 a) / 8 ≤ tn (u.2.1 b) / 8 → rs u.1 n (tm n (tn (u.1 (tn (u.2.1 a)))) (tn (u.1 (tn (u.2.1 b))))) = idn n
/-- a noted slot and its entry -/
theorem nt_at {n a : Nat} {G : Nat → Prop} {u : CS} (hn : n ≤ 7) (hL : LI n u) (hC : CW n u.1 G) (ha : a < u.2.2) : ∃ lv x, lv < n ∧ lv < x ∧ x < n ∧ tn (u.2.1 a) = lv * 8 + x ∧ EN u.1 lv x ∧ tn (u.1 (tn (u.2.1 a))) = en u.1 lv x := by
  obtain ⟨s, h1, h2, h3, h4⟩ := hL.1 a ha
  have e : tn (u.2.1 a) = s := by rw [h3, tn_nI (by omega)]
  have hs : s = s / 8 * 8 + s % 8 := by omega
  unfold OD at h2
  refine ⟨s / 8, s % 8, by omega, h2.1, h2.2, by rw [e]; exact hs, by unfold EN; rw [← hs]; exact h4, by unfold en; rw [e, ← hs]⟩
theorem PC_mono {n a b : Nat} {G : Nat → Prop} {u v : CS} (hn : n ≤ 7) (hL : LI n u) (hC : CW n u.1 G) (h : ST n G u v) (ha : a < u.2.2) (hb : b < u.2.2) (hp : PC n u a b) : PC n v a b := by
  obtain ⟨l1, x1, a1, a2, a3, a4, a5, -⟩ := nt_at hn hL hC ha
  obtain ⟨l2, x2, b1, b2, b3, b4, b5, -⟩ := nt_at hn hL hC hb
  have ea := h.2.2.2.1 a ha
  have eb := h.2.2.2.1 b hb
  have fa : v.1 (tn (u.2.1 a)) = u.1 (tn (u.2.1 a)) := by rw [a4]; exact h.2.2.1 l1 x1 a1 (by omega) a5
  have fb : v.1 (tn (u.2.1 b)) = u.1 (tn (u.2.1 b)) := by rw [b4]; exact h.2.2.1 l2 x2 b1 (by omega) b5
  unfold PC at hp ⊢
  rw [ea, eb, fa, fb]
  intro q
  exact rs_mono hn h.2.2.1 n 0 _ (by omega) (hp q)
theorem exT_inv {n a b : Nat} {G : Nat → Prop} {u : CS} (hn : n ≤ 7) (hG : GG n G) (hL : LI n u) (hC : CW n u.1 G) (ha : a < u.2.2) (hb : b < u.2.2) : ST n G u (exT n a b u) ∧ PC n (exT n a b u) a b := by
  obtain ⟨l1, x1, a1, a2, a3, a4, a5, a6⟩ := nt_at hn hL hC ha
  obtain ⟨l2, x2, b1, b2, b3, b4, b5, b6⟩ := nt_at hn hL hC hb
  by_cases c : tn (u.2.1 a) / 8 ≤ tn (u.2.1 b) / 8
  · have e : exT n a b u = enS n (tm n (tn (u.1 (tn (u.2.1 a)))) (tn (u.1 (tn (u.2.1 b))))) u := if_pos c
    have hGp : G (tm n (tn (u.1 (tn (u.2.1 a)))) (tn (u.1 (tn (u.2.1 b))))) := by
      rw [a6, b6]
      exact hG.2.2.1 _ _ (hC.2 l1 x1 a1 (by omega) a5).2.2.2.2 (hC.2 l2 x2 b1 (by omega) b5).2.2.2.2
    obtain ⟨h1, h2⟩ := en_inv hn hG hL hC hGp
    rw [← e] at h1 h2
    refine ⟨h1, fun _ => ?_⟩
    have ea := h1.2.2.2.1 a ha
    have eb := h1.2.2.2.1 b hb
    have fa : (exT n a b u).1 (tn (u.2.1 a)) = u.1 (tn (u.2.1 a)) := by rw [a4]; exact h1.2.2.1 l1 x1 a1 (by omega) a5
    have fb : (exT n a b u).1 (tn (u.2.1 b)) = u.1 (tn (u.2.1 b)) := by rw [b4]; exact h1.2.2.1 l2 x2 b1 (by omega) b5
    rw [ea, eb, fa, fb]
    exact h2
  · have e : exT n a b u = u := if_neg c
    rw [e]
    exact ⟨ST_rf hL hC, fun q => absurd q c⟩
theorem exI_inv {n a : Nat} {G : Nat → Prop} (hn : n ≤ 7) (hG : GG n G) : ∀ k b u, b + k = a + 1 → LI n u → CW n u.1 G → a < u.2.2 → (∀ j, j < b → PC n u a j ∧ PC n u j a) → ST n G u (exI n a k b u) ∧ ∀ j, j < a + 1 → PC n (exI n a k b u) a j ∧ PC n (exI n a k b u) j a
  | 0, b, u, hk, hL, hC, ha, h => by
      have e : b = a + 1 := by omega
      subst e
      exact ⟨ST_rf hL hC, h⟩
  | k + 1, b, u, hk, hL, hC, ha, h => by
      obtain ⟨s1, p1⟩ := exT_inv hn hG hL hC ha (show b < u.2.2 by omega)
      have ha1 : a < (exT n a b u).2.2 := Nat.lt_of_lt_of_le ha s1.2.2.2.2
      obtain ⟨s2, p2⟩ := exT_inv hn hG s1.1 s1.2.1 (show b < (exT n a b u).2.2 by omega) ha1
      have s12 := ST_tr s1 s2
      have ha2 : a < (exT n b a (exT n a b u)).2.2 := Nat.lt_of_lt_of_le ha s12.2.2.2.2
      obtain ⟨h1, h2⟩ := exI_inv hn hG k (b + 1) (exT n b a (exT n a b u)) (by omega) s2.1 s2.2.1 ha2 (fun j hj => by
        by_cases c : j = b
        · subst c
          exact ⟨PC_mono hn s1.1 s1.2.1 s2 ha1 (by omega) p1, p2⟩
        · have := h j (by omega)
          exact ⟨PC_mono hn hL hC s12 ha (by omega) this.1, PC_mono hn hL hC s12 (by omega) ha this.2⟩)
      exact ⟨ST_tr s12 h1, h2⟩
/-- at the end all pairs are done, or every slot is filled -/
theorem exF_inv {n : Nat} {G : Nat → Prop} (hn : n ≤ 7) (hG : GG n G) : ∀ k a u, a + k = 21 → LI n u → CW n u.1 G → (∀ i j, i < a → j < a → i < u.2.2 → j < u.2.2 → PC n u i j) → ST n G u (exF n k a u) ∧ ((∀ i j, i < (exF n k a u).2.2 → j < (exF n k a u).2.2 → PC n (exF n k a u) i j) ∨ n * (n - 1) / 2 ≤ (exF n k a u).2.2)
  | 0, a, u, hk, hL, hC, h => by
      have h21 := (sOK_LI hn hL).1
      exact ⟨ST_rf hL hC, Or.inl (fun i j hi hj => h i j (by have : i < u.2.2 := hi; omega) (by have : j < u.2.2 := hj; omega) hi hj)⟩
  | k + 1, a, u, hk, hL, hC, h => by
      by_cases c : u.2.2 ≤ a ∨ n * (n - 1) / 2 ≤ u.2.2
      · have e : exF n (k + 1) a u = u := if_pos c
        rw [e]
        refine ⟨ST_rf hL hC, c.imp (fun c i j hi hj => h i j (by omega) (by omega) hi hj) id⟩
      · have e : exF n (k + 1) a u = exF n k (a + 1) (exI n a (a + 1) 0 u) := if_neg c
        rw [e]
        have ha : a < u.2.2 := by omega
        obtain ⟨s1, p1⟩ := exI_inv hn hG (a + 1) 0 u (by omega) hL hC ha (fun j hj => absurd hj (Nat.not_lt_zero _))
        obtain ⟨h1, h2⟩ := exF_inv hn hG k (a + 1) (exI n a (a + 1) 0 u) (by omega) s1.1 s1.2.1 (fun i j hi hj hi2 hj2 => by
          by_cases ci : i = a
          · subst ci; exact (p1 j hj).1
          · by_cases cj : j = a
            · subst cj; exact (p1 i hi).2
            · exact PC_mono hn hL hC s1 (by omega) (by omega) (h i j (by omega) (by omega) (by omega) (by omega)))
        exact ⟨ST_tr s1 h1, h2⟩
/-- all pairs done, or all filled: closed -/
theorem CL_of {n : Nat} {G : Nat → Prop} {u : CS} (hn : n ≤ 7) (hG : GG n G) (hL : LI n u) (hC : CW n u.1 G) (h : (∀ i j, i < u.2.2 → j < u.2.2 → PC n u i j) ∨ n * (n - 1) / 2 ≤ u.2.2) : CL n u.1 := by
  intro a x b y hab hb hx hy hE1 hE2
  obtain ⟨c1, c2, c3, c4, c5⟩ := hC.2 a x (by omega) hx hE1
  obtain ⟨d1, d2, d3, d4, d5⟩ := hC.2 b y hb hy hE2
  have hax : a ≤ x := by have := FX_ge c2 c3 (show a < n by omega); omega
  have hby : b ≤ y := by have := FX_ge d2 d3 hb; omega
  by_cases e1 : x = a
  · subst e1
    rw [(hC.1 x (by omega)).2, id_tm hn d2]
    obtain ⟨d, hd⟩ : ∃ d, b = x + d := ⟨b - x, by omega⟩
    have := MM_en hn hC hb hy hE2
    rw [hd] at this ⊢
    exact MM_le hn hC d x (by omega) this
  · by_cases e2 : y = b
    · subst e2
      rw [(hC.1 y hb).2, tm_id hn c2]
      exact MM_en hn hC (by omega) hx hE1
    · have hPM := PM_tm c2 d2
      have hFX : FX a (tm n (en u.1 a x) (en u.1 b y)) := FX_tm (by omega) c3 (FX_le hab d3)
      have key : rs u.1 n (tm n (en u.1 a x) (en u.1 b y)) = idn n := by
        rcases h with h | h
        · obtain ⟨i, hi, ei⟩ := hL.2.2 (a * 8 + x) (by omega) (by unfold OD; omega) hE1
          obtain ⟨j, hj, ej⟩ := hL.2.2 (b * 8 + y) (by omega) (by unfold OD; omega) hE2
          have := h i j hi hj
          unfold PC at this
          rw [ei, ej, tn_nI (by omega), tn_nI (by omega)] at this
          exact this (by omega)
        · rcases (rs_facts hn hG hC n 0 _ (by omega) hPM (FX_0 _)).2.2 with q | ⟨v, -, hv, q1, q2, q3⟩
          · exact q
          · have hs := (rs_facts hn hG hC n 0 _ (by omega) hPM (FX_0 _)).1
            have hge := FX_ge hs q1 hv
            have hxn := hs.2.1 v hv
            exact absurd q3 (LI_full hn hL h (by unfold OD; omega))
      have drop : ∀ d c P, c + d = a → FX a P → rsF u.1 n (n - c) c P = rsF u.1 n (n - a) a P := by
        intro d
        induction d with
        | zero => intro c P hc _; rw [show c = a by omega]
        | succ d ih =>
          intro c P hc hF
          rw [show n - c = (n - (c + 1)) + 1 by omega, rsF_eq (hF c (by omega))]
          exact ih (c + 1) P (by omega) hF
      refine ⟨hPM, hFX, ?_⟩
      rw [← drop a 0 _ (by omega) hFX]
      exact key
/-- extendBy keeps its word -/
theorem ex_VC {n ct P : Nat} {f fl : Nat → Int32} {g : Nat → Nat} (hn : n ≤ 7) (hg : ∀ j, j < ct → PM n (g j)) (hP : PM n P) (h : VC n f (inG n ct g)) : VC n (exS n P f fl).1 (inG n (ct + 1) (fun j => if j = ct then P else g j)) := by
  have hg' : ∀ j, j < ct + 1 → PM n ((fun j => if j = ct then P else g j) j) := fun j hj => by
    by_cases c : j = ct
    · simp only [c, if_pos]; exact hP
    · simp only [if_neg c]; exact hg j (by omega)
  have hG := GG_inG hn hg'
  have hsub : ∀ Q, inG n ct g Q → inG n (ct + 1) (fun j => if j = ct then P else g j) Q := fun Q hQ => inG_mono (by omega) (fun j hj => by simp only [if_neg (show ¬ j = ct by omega)]) hQ
  obtain ⟨hL0, e0⟩ := lf_inv hn f fl
  have hC0 : CW n (lfF n n 0 (f, fl, 0)).1 (inG n (ct + 1) (fun j => if j = ct then P else g j)) := by rw [e0]; exact CW_mono h.1 hsub
  have hGP : inG n (ct + 1) (fun j => if j = ct then P else g j) P := by
    have := inG_gen hn hg' (show ct < ct + 1 by omega)
    simpa using this
  obtain ⟨s1, r1⟩ := en_inv hn hG hL0 hC0 hGP
  have old : ∀ i j, i < (lfF n n 0 (f, fl, 0)).2.2 → j < (lfF n n 0 (f, fl, 0)).2.2 → PC n (enS n P (lfF n n 0 (f, fl, 0))) i j := fun i j hi hj => by
    refine PC_mono hn hL0 hC0 s1 hi hj (fun _ => ?_)
    obtain ⟨l1, x1, a1, a2, a3, a4, a5, a6⟩ := nt_at hn hL0 hC0 hi
    obtain ⟨l2, x2, b1, b2, b3, b4, b5, b6⟩ := nt_at hn hL0 hC0 hj
    rw [a6, b6]
    rw [e0] at a5 b5 ⊢
    exact h.2 _ (inG_mul hn hg (h.1.2 l1 x1 a1 (by omega) a5).2.2.2.2 (h.1.2 l2 x2 b1 (by omega) b5).2.2.2.2)
  have h21 := (sOK_LI hn hL0).1
  obtain ⟨s2, p2⟩ := exF_inv hn hG (21 - (lfF n n 0 (f, fl, 0)).2.2) (lfF n n 0 (f, fl, 0)).2.2 (enS n P (lfF n n 0 (f, fl, 0))) (by omega) s1.1 s1.2.1 (fun i j hi hj _ _ => old i j hi hj)
  have s12 := ST_tr s1 s2
  refine VC_of hn hg' s2.2.1 (CL_of hn hG s2.1 s2.2.1 p2) (fun j hj => ?_)
  by_cases c : j = ct
  · simp only [c, if_pos]
    exact rs_mono hn s2.2.2.1 n 0 P (by omega) r1
  · simp only [if_neg c]
    have hj' : j < ct := by omega
    have q := h.2 _ (inG_gen hn hg hj')
    have e2 := s12.2.2.1
    rw [e0] at e2
    exact rs_mono hn e2 n 0 _ (by omega) q
end
section
/-! ===== counting ===== -/
def cy (p : Nat → Bool) : Nat → Nat → Nat
  | 0, _ => 0
  | k + 1, y => (if p y = true then 1 else 0) + cy p k (y + 1)
theorem cy_countP (p : Nat → Bool) : ∀ k y, cy p k y = (List.range' y k).countP p
  | 0, _ => rfl
  | k + 1, y => by
      rw [List.range'_succ, List.countP_cons, ← cy_countP p k (y + 1)]
      show (if p y = true then 1 else 0) + cy p k (y + 1) = _
      omega
theorem cy_app (p : Nat → Bool) : ∀ a b y, cy p (a + b) y = cy p a y + cy p b (y + a)
  | 0, b, y => by rw [Nat.zero_add]; show _ = 0 + cy p b (y + 0); rw [Nat.zero_add]; rfl
  | a + 1, b, y => by
      rw [show a + 1 + b = (a + b) + 1 by omega]
      show (if p y = true then 1 else 0) + cy p (a + b) (y + 1) = (if p y = true then 1 else 0) + cy p a (y + 1) + cy p b (y + (a + 1))
      rw [cy_app p a b (y + 1), show y + 1 + a = y + (a + 1) by omega]
      omega
theorem cy_congr {p q : Nat → Bool} : ∀ k y, (∀ j, y ≤ j → j < y + k → p j = q j) → cy p k y = cy q k y
  | 0, _, _ => rfl
  | k + 1, y, h => by
      show (if p y = true then 1 else 0) + cy p k (y + 1) = (if q y = true then 1 else 0) + cy q k (y + 1)
      rw [h y (by omega) (by omega), cy_congr k (y + 1) (fun j h1 h2 => h j (by omega) (by omega))]
theorem cy_none {p : Nat → Bool} : ∀ k y, (∀ j, y ≤ j → j < y + k → p j = false) → cy p k y = 0
  | 0, _, _ => rfl
  | k + 1, y, h => by
      show (if p y = true then 1 else 0) + cy p k (y + 1) = 0
      rw [h y (by omega) (by omega), cy_none k (y + 1) (fun j h1 h2 => h j (by omega) (by omega))]
      rfl
theorem cy_one {p : Nat → Bool} {y : Nat} (h : p y = true) : cy p 1 y = 1 := by
  show (if p y = true then 1 else 0) + 0 = 1
  rw [if_pos h]
/-- counted in another order -/
theorem cy_perm {n b : Nat} (hb : PM n b) (p : Nat → Bool) : cy (fun y => p (im b y)) n 0 = cy p n 0 := by
  rw [cy_countP, cy_countP, ← List.range_eq_range']
  have hp : ((List.range n).map (im b)).Perm (List.range n) := by
    refine (List.perm_ext_iff_of_nodup ?_ List.nodup_range).mpr (fun a => ?_)
    · refine List.pairwise_map.mpr (List.Pairwise.imp_of_mem ?_ List.pairwise_lt_range)
      intro x y hx hy hxy e
      have := PM_inj hb (List.mem_range.mp hx) (List.mem_range.mp hy) e
      omega
    · rw [List.mem_map, List.mem_range]
      constructor
      · rintro ⟨i, hi, rfl⟩; exact hb.2.1 i (List.mem_range.mp hi)
      · intro ha
        obtain ⟨j, hj, e⟩ := hb.2.2 a ha
        exact ⟨j, List.mem_range.mpr hj, e⟩
  rw [← hp.countP_eq p, List.countP_map]
  rfl
theorem cnF_cy (f : Nat → Int32) (lv : Nat) : ∀ k x a, cnF f lv k x a = a + cy (fun x => decide (¬ f (lv * 8 + x) = -1)) k x
  | 0, _, _ => rfl
  | k + 1, x, a => by
      by_cases c : f (lv * 8 + x) = -1
      · rw [cnF_n c, cnF_cy f lv k (x + 1) a]
        show _ = a + ((if decide (¬ f (lv * 8 + x) = -1) = true then 1 else 0) + _)
        rw [if_neg (by simpa using c)]
        omega
      · rw [cnF_y c, cnF_cy f lv k (x + 1) (a + 1)]
        show _ = a + ((if decide (¬ f (lv * 8 + x) = -1) = true then 1 else 0) + _)
        rw [if_pos (by simpa using c)]
        omega
theorem elF_cy (f : Nat → Int32) (lv fo lim : Nat) : ∀ k x a, elF f lv fo lim k x a = a + cy (fun x => decide (¬ f (lv * 8 + x) = -1) && decide (im fo x < lim)) k x
  | 0, _, _ => rfl
  | k + 1, x, a => by
      by_cases c : f (lv * 8 + x) = -1
      · rw [elF_n c, elF_cy f lv fo lim k (x + 1) a]
        show _ = a + ((if (decide (¬ f (lv * 8 + x) = -1) && decide (im fo x < lim)) = true then 1 else 0) + _)
        rw [if_neg (by simp [c])]
        omega
      · by_cases d : im fo x < lim
        · rw [elF_y c d, elF_cy f lv fo lim k (x + 1) (a + 1)]
          show _ = a + ((if (decide (¬ f (lv * 8 + x) = -1) && decide (im fo x < lim)) = true then 1 else 0) + _)
          rw [if_pos (by simp [c, d])]
          omega
        · rw [elF_m c d, elF_cy f lv fo lim k (x + 1) a]
          show _ = a + ((if (decide (¬ f (lv * 8 + x) = -1) && decide (im fo x < lim)) = true then 1 else 0) + _)
          rw [if_neg (by simp [d])]
          omega
theorem fxF_mul (f : Nat → Int32) (n : Nat) : ∀ k lv a, fxF f n k lv a = a * fxF f n k lv 1
  | 0, _, a => by show a = a * 1; omega
  | k + 1, lv, a => by
      show fxF f n k (lv + 1) (a * cnF f lv (n - lv) lv 0) = a * fxF f n k (lv + 1) (1 * cnF f lv (n - lv) lv 0)
      rw [fxF_mul f n k (lv + 1) (a * cnF f lv (n - lv) lv 0), fxF_mul f n k (lv + 1) (1 * cnF f lv (n - lv) lv 0), Nat.one_mul, Nat.mul_assoc]
theorem fx_step {f : Nat → Int32} {n lv : Nat} (h : lv < n) : fx f n lv = cnF f lv (n - lv) lv 0 * fx f n (lv + 1) := by
  unfold fx
  rw [show n - lv = (n - (lv + 1)) + 1 by omega]
  show fxF f n (n - (lv + 1)) (lv + 1) (1 * cnF f lv (n - lv) lv 0) = _
  rw [fxF_mul, Nat.one_mul, show n - (lv + 1) + 1 = n - lv by omega]
theorem fx_n (f : Nat → Int32) (n : Nat) : fx f n n = 1 := by unfold fx; rw [Nat.sub_self]; rfl
section ENR
variable {n : Nat} {f : Nat → Int32} {G : Nat → Prop}
def av (f : Nat → Int32) (lv b : Nat) : Nat → Bool := fun y => decide (¬ f (lv * 8 + im b y) = -1)
theorem cn_av (hn : n ≤ 7) (hC : CW n f G) {lv fo : Nat} (hl : lv < n) (hfo : PM n fo) : cnF f lv (n - lv) lv 0 = cy (av f lv (bk n fo)) n 0 := by
  have e : cy (av f lv (bk n fo)) n 0 = cy (fun x => decide (¬ f (lv * 8 + x) = -1)) n 0 := cy_perm (PM_bk hn hfo) (fun x => decide (¬ f (lv * 8 + x) = -1))
  rw [cnF_cy, e, Nat.zero_add]
  have h := cy_app (fun x => decide (¬ f (lv * 8 + x) = -1)) lv (n - lv) 0
  rw [show lv + (n - lv) = n by omega, Nat.zero_add] at h
  rw [h, cy_none lv 0 (fun j _ hj => ?_), Nat.zero_add]
  have : f (lv * 8 + j) = -1 := Classical.byContradiction (fun q => by
    obtain ⟨-, u1, u2, u3, -⟩ := hC.2 lv j hl (by omega) q
    have := FX_ge u1 u2 hl
    omega)
  simp [this]
theorem el_av (hn : n ≤ 7) (hC : CW n f G) {lv fo y : Nat} (hl : lv < n) (hfo : PM n fo) (hy : y ≤ n) : elF f lv fo y (n - lv) lv 0 = cy (av f lv (bk n fo)) y 0 := by
  have hbk := PM_bk hn hfo
  have e := cy_perm hbk (fun x => decide (¬ f (lv * 8 + x) = -1) && decide (im fo x < y))
  rw [elF_cy, Nat.zero_add]
  have h := cy_app (fun x => decide (¬ f (lv * 8 + x) = -1) && decide (im fo x < y)) lv (n - lv) 0
  rw [show lv + (n - lv) = n by omega, Nat.zero_add, cy_none lv 0 (fun j _ hj => by
    have : f (lv * 8 + j) = -1 := Classical.byContradiction (fun q => by
      obtain ⟨-, u1, u2, u3, -⟩ := hC.2 lv j hl (by omega) q
      have := FX_ge u1 u2 hl
      omega)
    simp [this]), Nat.zero_add] at h
  rw [← h, ← e]
  have h2 := cy_app (fun z => (decide (¬ f (lv * 8 + im (bk n fo) z) = -1) && decide (im fo (im (bk n fo) z) < y))) y (n - y) 0
  rw [show y + (n - y) = n by omega, Nat.zero_add] at h2
  rw [h2, cy_none (n - y) y (fun j h3 h4 => by
    rw [im_bk hn hfo (by omega)]
    simp [show ¬ j < y by omega]), Nat.add_zero]
  refine cy_congr y 0 (fun j _ hj => ?_)
  rw [im_bk hn hfo (by omega)]
  simp [av, show j < y by omega]
/-- the search along a level, by the digit -/
theorem icI_at {lv al fo ys r : Nat} {b : Nat} (hav : av f lv b ys = true) (hr : r < al) : ∀ k y, y ≤ ys → ys < y + k → icI f n lv al b k y fo (cy (av f lv b) (ys - y) y * al + r) = (tm n (en f lv (im b ys)) fo, r)
  | 0, y, h1, h2 => by omega
  | k + 1, y, h1, h2 => by
      by_cases e : y = ys
      · subst e
        rw [Nat.sub_self]
        show icI f n lv al b (k + 1) y fo (0 * al + r) = _
        rw [Nat.zero_mul, Nat.zero_add, icI_hit (of_decide_eq_true hav) hr]
        rfl
      · rw [show ys - y = (ys - (y + 1)) + 1 by omega]
        show icI f n lv al b (k + 1) y fo (((if av f lv b y = true then 1 else 0) + cy (av f lv b) (ys - (y + 1)) (y + 1)) * al + r) = _
        by_cases c : av f lv b y = true
        · have hge : al ≤ (1 + cy (av f lv b) (ys - (y + 1)) (y + 1)) * al := by rw [Nat.add_mul, Nat.one_mul]; omega
          rw [if_pos c, icI_sub (of_decide_eq_true c) (by omega), Nat.add_mul, Nat.one_mul, show al + cy (av f lv b) (ys - (y + 1)) (y + 1) * al + r - al = cy (av f lv b) (ys - (y + 1)) (y + 1) * al + r by omega]
          exact icI_at hav hr k (y + 1) (by omega) (by omega)
        · have c2 : f (lv * 8 + im b y) = -1 := Classical.byContradiction (fun q => c (decide_eq_true q))
          rw [if_neg c, icI_none c2, Nat.zero_add]
          exact icI_at hav hr k (y + 1) (by omega) (by omega)
theorem dig {p : Nat → Bool} {al : Nat} : ∀ k y be, be < cy p k y * al → ∃ ys r, y ≤ ys ∧ ys < y + k ∧ p ys = true ∧ r < al ∧ be = cy p (ys - y) y * al + r
  | 0, y, be, h => by
      have : be < 0 * al := h
      omega
  | k + 1, y, be, h => by
      have h : be < ((if p y = true then 1 else 0) + cy p k (y + 1)) * al := h
      by_cases c : p y = true
      · rw [if_pos c, Nat.add_mul, Nat.one_mul] at h
        by_cases d : be < al
        · exact ⟨y, be, by omega, by omega, c, d, by rw [Nat.sub_self]; show be = 0 * al + be; omega⟩
        · obtain ⟨ys, r, h1, h2, h3, h4, h5⟩ := dig (p := p) (al := al) k (y + 1) (be - al) (by omega)
          refine ⟨ys, r, by omega, by omega, h3, h4, ?_⟩
          rw [show ys - y = (ys - (y + 1)) + 1 by omega]
          show be = ((if p y = true then 1 else 0) + cy p (ys - (y + 1)) (y + 1)) * al + r
          rw [if_pos c, Nat.add_mul, Nat.one_mul]
          omega
      · rw [if_neg c, Nat.zero_add] at h
        obtain ⟨ys, r, h1, h2, h3, h4, h5⟩ := dig (p := p) (al := al) k (y + 1) be h
        refine ⟨ys, r, by omega, by omega, h3, h4, ?_⟩
        rw [show ys - y = (ys - (y + 1)) + 1 by omega]
        show be = ((if p y = true then 1 else 0) + cy p (ys - (y + 1)) (y + 1)) * al + r
        rw [if_neg c, Nat.zero_add]
        exact h5
theorem cy_lt {p : Nat → Bool} {a b : Nat} (hab : a < b) (h : p a = true) : cy p a 0 + 1 ≤ cy p b 0 := by
  have h1 := cy_app p a (b - a) 0
  rw [show a + (b - a) = b by omega, Nat.zero_add] at h1
  have h2 := cy_app p 1 (b - a - 1) a
  rw [show 1 + (b - a - 1) = b - a by omega, cy_one h] at h2
  omega
theorem ebF_add (P : Nat) : ∀ k lv be fo, ebF f n P k lv be fo = be + ebF f n P k lv 0 fo
  | 0, _, _, _ => rfl
  | k + 1, lv, be, fo => by
      show ebF f n P k (lv + 1) (be + elF f lv fo (im P lv) (n - lv) lv 0 * fx f n (lv + 1)) _ = be + ebF f n P k (lv + 1) (0 + elF f lv fo (im P lv) (n - lv) lv 0 * fx f n (lv + 1)) _
      rw [ebF_add P k (lv + 1) (be + elF f lv fo (im P lv) (n - lv) lv 0 * fx f n (lv + 1)), ebF_add P k (lv + 1) (0 + elF f lv fo (im P lv) (n - lv) lv 0 * fx f n (lv + 1))]
      omega
theorem im_cos {lv X fo j : Nat} (hl : lv ≤ n) (hX : FX lv X) (hj : j < lv) : im (tm n X fo) j = im fo j := by rw [tm_im, if_pos (by omega), hX j hj]
/-- ENUMERATION of a coset, level by level -/
theorem ic_all (hn : n ≤ 7) (hC : CW n f G) : ∀ k lv, lv + k = n → ∀ fo, PM n fo →
    (∀ be, be < fx f n lv → ∃ X, MM n f lv X ∧ icF f n k lv fo be = tm n X fo) ∧
    (∀ a b, a < b → b < fx f n lv → lx n (icF f n k lv fo a) (icF f n k lv fo b)) ∧
    ∀ X, MM n f lv X → ebF f n (tm n X fo) k lv 0 fo < fx f n lv ∧ icF f n k lv fo (ebF f n (tm n X fo) k lv 0 fo) = tm n X fo
  | 0, lv, hk, fo, hfo => by
      have e : lv = n := by omega
      subst e
      rw [fx_n]
      refine ⟨fun be _ => ⟨idn lv, MM_id hn (Nat.le_refl _), (id_tm hn hfo).symm⟩, fun a b h1 h2 => by omega, fun X hX => ?_⟩
      rw [FX_n hn hX.1 hX.2.1]
      exact ⟨Nat.lt_succ_self 0, (id_tm hn hfo).symm⟩
  | k + 1, lv, hk, fo, hfo => by
      have hl : lv < n := by omega
      have hbk := PM_bk hn hfo
      have hN : fx f n lv = cy (av f lv (bk n fo)) n 0 * fx f n (lv + 1) := by rw [fx_step hl, cn_av hn hC hl hfo]
      -- one digit
      have step : ∀ be, be < fx f n lv → ∃ y r, y < n ∧ av f lv (bk n fo) y = true ∧ r < fx f n (lv + 1) ∧ be = cy (av f lv (bk n fo)) y 0 * fx f n (lv + 1) + r ∧ icF f n (k + 1) lv fo be = icF f n k (lv + 1) (tm n (en f lv (im (bk n fo) y)) fo) r := by
        intro be hbe
        rw [hN] at hbe
        obtain ⟨y, r, -, h2, h3, h4, h5⟩ := dig n 0 be hbe
        have h5 : be = cy (av f lv (bk n fo)) y 0 * fx f n (lv + 1) + r := h5
        refine ⟨y, r, by omega, h3, h4, h5, icF_step ?_⟩
        rw [h5]
        exact icI_at h3 h4 n 0 (by omega) (by omega)
      have ent : ∀ y, y < n → av f lv (bk n fo) y = true → EN f lv (im (bk n fo) y) ∧ PM n (en f lv (im (bk n fo) y)) ∧ PM n (tm n (en f lv (im (bk n fo) y)) fo) ∧ FX lv (en f lv (im (bk n fo) y)) ∧ im (tm n (en f lv (im (bk n fo) y)) fo) lv = y := by
        intro y hy h
        have hE0 : ¬ f (lv * 8 + im (bk n fo) y) = -1 := of_decide_eq_true h
        have hE : EN f lv (im (bk n fo) y) := hE0
        obtain ⟨-, u1, u2, u3, -⟩ := hC.2 lv _ hl (im_lt _ _) hE
        exact ⟨hE, u1, PM_tm u1 hfo, u2, by rw [tm_im, if_pos hl, u3, im_bk hn hfo hy]⟩
      refine ⟨fun be hbe => ?_, fun a b hab hb => ?_, fun X hX => ?_⟩
      · obtain ⟨y, r, h1, h2, h3, -, h5⟩ := step be hbe
        obtain ⟨e1, e2, e3, -, -⟩ := ent y h1 h2
        obtain ⟨X, hX, eX⟩ := (ic_all hn hC k (lv + 1) (by omega) _ e3).1 r h3
        refine ⟨tm n X (en f lv (im (bk n fo) y)), MM_cons hn hC hl hX (im_lt _ _) e1, ?_⟩
        rw [h5, eX, tm_assoc hX.1 e2 hfo]
      · obtain ⟨y, r, h1, h2, h3, h4, h5⟩ := step a (by omega)
        obtain ⟨y', r', h1', h2', h3', h4', h5'⟩ := step b hb
        obtain ⟨e1, e2, e3, e4, e5⟩ := ent y h1 h2
        obtain ⟨e1', e2', e3', e4', e5'⟩ := ent y' h1' h2'
        rcases Nat.lt_trichotomy y y' with c | c | c
        · rw [h5, h5']
          obtain ⟨X, hX, eX⟩ := (ic_all hn hC k (lv + 1) (by omega) _ e3).1 r h3
          obtain ⟨X', hX', eX'⟩ := (ic_all hn hC k (lv + 1) (by omega) _ e3').1 r' h3'
          rw [eX, eX']
          refine ⟨lv, hl, fun j hj => ?_, ?_⟩
          · rw [im_cos (show lv + 1 ≤ n by omega) hX.2.1 (by omega), im_cos (show lv + 1 ≤ n by omega) hX'.2.1 (by omega), im_cos (by omega) e4 hj, im_cos (by omega) e4' hj]
          · rw [im_cos (show lv + 1 ≤ n by omega) hX.2.1 (by omega), im_cos (show lv + 1 ≤ n by omega) hX'.2.1 (by omega), e5, e5']
            exact c
        · subst c
          rw [h5, h5']
          exact (ic_all hn hC k (lv + 1) (by omega) _ e3).2.1 r r' (by omega) h3'
        · exfalso
          have := Nat.mul_le_mul_right (fx f n (lv + 1)) (cy_lt (p := av f lv (bk n fo)) c h2')
          rw [Nat.add_mul, Nat.one_mul] at this
          omega
      · obtain ⟨Z, hZ, hE, eX⟩ := MM_split hn hC hl hX
        obtain ⟨x1, u1, u2, u3, -⟩ := hC.2 lv _ hl (im_lt _ _) hE
        have hx : im X lv < n := hX.1.2.1 lv hl
        have hy : im (tm n X fo) lv = im fo (im X lv) := by rw [tm_im, if_pos hl]
        have hyn : im fo (im X lv) < n := hfo.2.1 _ hx
        have hb : im (bk n fo) (im fo (im X lv)) = im X lv := bk_im hn hfo hx
        have hav : av f lv (bk n fo) (im fo (im X lv)) = true := by unfold av; rw [hb]; exact decide_eq_true hE
        have e3 := PM_tm u1 hfo
        have eP : tm n X fo = tm n Z (tm n (en f lv (im X lv)) fo) := by rw [← tm_assoc hZ.1 u1 hfo, ← eX]
        obtain ⟨c1, c2⟩ := (ic_all hn hC k (lv + 1) (by omega) _ e3).2.2 Z hZ
        rw [← eP] at c1 c2
        have eb1 : ebF f n (tm n X fo) (k + 1) lv 0 fo = cy (av f lv (bk n fo)) (im fo (im X lv)) 0 * fx f n (lv + 1) + ebF f n (tm n X fo) k (lv + 1) 0 (tm n (en f lv (im X lv)) fo) := by
          show ebF f n (tm n X fo) k (lv + 1) (0 + elF f lv fo (im (tm n X fo) lv) (n - lv) lv 0 * fx f n (lv + 1)) (tm n (en f lv (im (bk n fo) (im (tm n X fo) lv))) fo) = _
          rw [ebF_add, hy, hb, el_av hn hC hl hfo (by omega), Nat.zero_add]
        rw [eb1]
        have hlt := Nat.mul_le_mul_right (fx f n (lv + 1)) (cy_lt (p := av f lv (bk n fo)) hyn hav)
        rw [Nat.add_mul, Nat.one_mul] at hlt
        refine ⟨by rw [hN]; omega, ?_⟩
        have := icI_at (n := n) (fo := fo) hav c1 n 0 (by omega) (by omega)
        rw [hb] at this
        rw [icF_step (be := cy (av f lv (bk n fo)) (im fo (im X lv)) 0 * fx f n (lv + 1) + ebF f n (tm n X fo) k (lv + 1) 0 (tm n (en f lv (im X lv)) fo)) this]
        exact c2
end ENR
end
section
/-! ===== the reference's search ===== -/
theorem fac_le {n : Nat} (h7 : n ≤ 7) : fac n ≤ 5040 := (fac_bd n h7).2
def gC (gn : Nat → Int32) : Nat → Nat := fun j => tn (gn j)
def FP (n ct : Nat) (gn iv : Nat → Int32) : Prop := (∀ m, m < 5040 → iv m = 0 ∨ iv m = 1) ∧ ∀ m, m < 5040 → (iv m = 1 ↔ m < fac n ∧ inG n ct (gC gn) (pe n m))
def BI (n ct : Nat) (gn : Nat → Int32) (k : Nat) (iv wv : Nat → Int32) (la : Nat) : Prop :=
  la ≤ 5040 ∧ k ≤ la ∧ (∀ m, m < 5040 → iv m = 0 ∨ iv m = 1) ∧ (∀ j, j < la → ∃ m, m < fac n ∧ wv j = nI m ∧ iv m = 1 ∧ inG n ct (gC gn) (pe n m)) ∧
  (∀ i j, i < la → j < la → wv i = wv j → i = j) ∧ (∀ m, m < 5040 → iv m = 1 → ∃ j, j < la ∧ wv j = nI m) ∧ iv 0 = 1 ∧
  ∀ j t, j < k → t < ct → iv (nu n (tm n (pe n (tn (wv j))) (tn (gn t)))) = 1
def BJ (n ct : Nat) (gn : Nat → Int32) (k t Pp : Nat) (iv wv : Nat → Int32) (la : Nat) : Prop :=
  BI n ct gn k iv wv la ∧ k < la ∧ Pp = pe n (tn (wv k)) ∧ ∀ q, q < t → iv (nu n (tm n Pp (tn (gn q)))) = 1
section BFS
variable {n ct : Nat} {gn : Nat → Int32}
theorem BI_wv {k la j : Nat} {iv wv : Nat → Int32} (h7 : n ≤ 7) (h : BI n ct gn k iv wv la) (hj : j < la) : tn (wv j) < fac n ∧ inG n ct (gC gn) (pe n (tn (wv j))) ∧ iv (tn (wv j)) = 1 := by
  obtain ⟨m, h1, h2, h3, h4⟩ := h.2.2.2.1 j hj
  have := fac_le h7
  rw [h2, tn_nI (by omega)]
  exact ⟨h1, h4, h3⟩
theorem BI_0 (h1 : 1 ≤ n) (h7 : n ≤ 7) {iv wv : Nat → Int32} (hz : ∀ j, j < 5040 → iv j = 0) : BI n ct gn 0 (upd iv 0 (nI 1)) (upd wv 0 (nI 0)) 1 := by
  have hid := nu_id h1 h7
  refine ⟨by omega, by omega, fun m hm => ?_, fun j hj => ⟨0, (fac_bd n h7).1, by rw [show j = 0 by omega]; exact pk_us, pk_us, by rw [hid.2]; exact inG_id⟩, fun i j hi hj _ => by omega, fun m hm e => ?_, pk_us, fun j t hj => by omega⟩
  · by_cases c : m = 0
    · rw [c]; exact Or.inr pk_us
    · rw [pk_un c]; exact Or.inl (hz m hm)
  · by_cases c : m = 0
    · rw [c]; exact ⟨0, by omega, pk_us⟩
    · rw [pk_un c, hz m hm] at e
      exact absurd e (by decide)
theorem BJ_in {k la : Nat} {iv wv : Nat → Int32} (h : BI n ct gn k iv wv la) (hk : k < la) : BJ n ct gn k 0 (pe n (tn (wv k))) iv wv la :=
  ⟨h, hk, rfl, fun q hq => absurd hq (Nat.not_lt_zero _)⟩
theorem BJ_out {k la Pp : Nat} {iv wv : Nat → Int32} (h : BJ n ct gn k ct Pp iv wv la) : BI n ct gn (k + 1) iv wv la := by
  obtain ⟨⟨b1, b2, b3, b4, b5, b6, b7, b8⟩, hk, hP, ht⟩ := h
  refine ⟨b1, by omega, b3, b4, b5, b6, b7, fun j t hj htt => ?_⟩
  by_cases c : j = k
  · rw [c, ← hP]; exact ht t htt
  · exact b8 j t (by omega) htt
theorem BJ_prod (h1 : 1 ≤ n) (h7 : n ≤ 7) (hg : ∀ j, j < ct → PM n (gC gn j)) {k t la Pp : Nat} {iv wv : Nat → Int32} (h : BJ n ct gn k t Pp iv wv la) (ht : t < ct) : PM n Pp ∧ PM n (tm n Pp (tn (gn t))) ∧ nu n (tm n Pp (tn (gn t))) < fac n ∧ inG n ct (gC gn) (tm n Pp (tn (gn t))) := by
  obtain ⟨a1, a2, -⟩ := BI_wv h7 h.1 h.2.1
  have hG : inG n ct (gC gn) Pp := by rw [h.2.2.1]; exact a2
  have hG2 : inG n ct (gC gn) (tm n Pp (gC gn t)) := inG_mg hG ht
  have hPM := inG_PM h7 hg hG2
  exact ⟨inG_PM h7 hg hG, hPM, nu_lt h1 h7 hPM, hG2⟩
theorem BJ_skip {k t la Pp : Nat} {iv wv : Nat → Int32} (h : BJ n ct gn k t Pp iv wv la) (hm : iv (nu n (tm n Pp (tn (gn t)))) = 1) : BJ n ct gn k (t + 1) Pp iv wv la :=
  ⟨h.1, h.2.1, h.2.2.1, fun q hq => by
    by_cases c : q = t
    · rw [c]; exact hm
    · exact h.2.2.2 q (by omega)⟩
theorem BI_room (h7 : n ≤ 7) {k la m : Nat} {iv wv : Nat → Int32} (h : BI n ct gn k iv wv la) (hm : m < fac n) (hi : iv m = 0) : la < 5040 := by
  have hf := fac_le h7
  have hnd : (m :: (List.range la).map (fun j => tn (wv j))).Nodup := by
    refine List.nodup_cons.mpr ⟨fun hq => ?_, List.pairwise_map.mpr (List.Pairwise.imp_of_mem ?_ List.pairwise_lt_range)⟩
    · obtain ⟨j, hj, e⟩ := List.mem_map.mp hq
      have := (BI_wv h7 h (List.mem_range.mp hj)).2.2
      rw [e, hi] at this
      exact absurd this (by decide)
    · intro a b ha hb hab e
      have := h.2.2.2.2.1 a b (List.mem_range.mp ha) (List.mem_range.mp hb) (by rw [← nI_tn (wv a), ← nI_tn (wv b), e])
      omega
  have hsub : (m :: (List.range la).map (fun j => tn (wv j))) ⊆ List.range 5040 := by
    intro z hz
    rcases List.mem_cons.mp hz with rfl | hz
    · exact List.mem_range.mpr (by omega)
    · obtain ⟨j, hj, rfl⟩ := List.mem_map.mp hz
      have := (BI_wv h7 h (List.mem_range.mp hj)).1
      exact List.mem_range.mpr (by omega)
  have := List.Nodup.length_le_of_subset hnd hsub
  rw [List.length_cons, List.length_map, List.length_range, List.length_range] at this
  omega
theorem BJ_push (h1 : 1 ≤ n) (h7 : n ≤ 7) (hg : ∀ j, j < ct → PM n (gC gn j)) {k t la Pp m : Nat} {iv wv : Nat → Int32} (h : BJ n ct gn k t Pp iv wv la) (ht : t < ct) (em : m = nu n (tm n Pp (tn (gn t)))) (hi : iv m = 0) : BJ n ct gn k (t + 1) Pp (upd iv m (nI 1)) (upd wv la (nI m)) (la + 1) := by
  obtain ⟨p1, p2, p3, p4⟩ := BJ_prod h1 h7 hg h ht
  rw [← em] at p3
  have hroom := BI_room h7 h.1 p3 hi
  have hf := fac_le h7
  obtain ⟨⟨b1, b2, b3, b4, b5, b6, b7, b8⟩, hk, hP, hq⟩ := h
  have keep : ∀ z, iv z = 1 → upd iv m (nI 1) z = 1 := fun z hz => by
    by_cases c : z = m
    · rw [c]; exact pk_us
    · rw [pk_un c]; exact hz
  have hwk : ∀ j, j < la → upd wv la (nI m) j = wv j := fun j hj => pk_un (by omega)
  refine ⟨⟨by omega, by omega, fun z hz => ?_, fun j hj => ?_, fun i j hi2 hj e => ?_, fun z hz e => ?_, keep 0 b7, fun j t' hj ht' => ?_⟩, by omega, by rw [hwk k hk]; exact hP, fun q hq2 => ?_⟩
  · by_cases c : z = m
    · rw [c]; exact Or.inr pk_us
    · rw [pk_un c]; exact b3 z hz
  · by_cases c : j = la
    · refine ⟨m, p3, by rw [c]; exact pk_us, pk_us, ?_⟩
      rw [em, pe_nu h1 h7 p2]
      exact p4
    · obtain ⟨z, a1, a2, a3, a4⟩ := b4 j (by omega)
      exact ⟨z, a1, by rw [pk_un c]; exact a2, keep z a3, a4⟩
  · have nw : ∀ j, j < la → wv j ≠ nI m := fun j hj e => by
      obtain ⟨z, a1, a2, a3, -⟩ := b4 j hj
      have : z = m := nI_inj32 (by omega) (by omega) (a2.symm.trans e)
      rw [this, hi] at a3
      exact absurd a3 (by decide)
    by_cases ci : i = la <;> by_cases cj : j = la
    · omega
    · rw [ci, pk_us, pk_un cj] at e
      exact absurd e.symm (nw j (by omega))
    · rw [cj, pk_us, pk_un ci] at e
      exact absurd e (nw i (by omega))
    · rw [pk_un ci, pk_un cj] at e
      exact b5 i j (by omega) (by omega) e
  · by_cases c : z = m
    · exact ⟨la, by omega, by rw [c]; exact pk_us⟩
    · rw [pk_un c] at e
      obtain ⟨j, a1, a2⟩ := b6 z hz e
      exact ⟨j, by omega, by rw [hwk j a1]; exact a2⟩
  · rw [hwk j (by omega)]
    exact keep _ (b8 j t' hj ht')
  · by_cases c : q = t
    · rw [c, ← em]; exact pk_us
    · exact keep _ (hq q (by omega))
theorem BI_end (h1 : 1 ≤ n) (h7 : n ≤ 7) (hg : ∀ j, j < ct → PM n (gC gn j)) {k la : Nat} {iv wv : Nat → Int32} (h : BI n ct gn k iv wv la) (hk : la ≤ k) : FP n ct gn iv := by
  have hf := fac_le h7
  obtain ⟨b1, b2, b3, b4, b5, b6, b7, b8⟩ := h
  refine ⟨b3, fun m hm => ⟨fun e => ?_, fun ⟨e1, e2⟩ => ?_⟩⟩
  · obtain ⟨j, a1, a2⟩ := b6 m hm e
    obtain ⟨z, c1, c2, -, c4⟩ := b4 j a1
    have : z = m := nI_inj32 (by omega) (by omega) (c2.symm.trans a2)
    rw [this] at c1 c4
    exact ⟨c1, c4⟩
  · have key : ∀ P, inG n ct (gC gn) P → PM n P ∧ iv (nu n P) = 1 := fun P hP => inG_min (S := fun P => PM n P ∧ iv (nu n P) = 1) ⟨PM_id h7, by rw [(nu_id h1 h7).1]; exact b7⟩ (fun P j hPs hj => by
      refine ⟨PM_tm hPs.1 (hg j hj), ?_⟩
      have hlt := nu_lt h1 h7 hPs.1
      obtain ⟨i, a1, a2⟩ := b6 (nu n P) (by omega) hPs.2
      have := b8 i j (by omega) hj
      rw [a2, tn_nI (by omega), pe_nu h1 h7 hPs.1] at this
      exact this) hP
    have := (key _ e2).2
    rw [nu_pe h1 h7 e1] at this
    exact this
end BFS
end
section
section CXH
variable {l : Launch} {D : va_G} {cI cG cZ : ClassId} {h fa ge inn wa : Nat} {ct n : Nat} {th : Int32} {gn iv wv : Nat → Int32}
theorem eX1_fill : yX1_fill.cls = RX1 ∧ yX1_fill.cls ≠ "java/lang/invoke/MethodHandle" ∧ yX1_fill.cls ≠ "java/lang/invoke/VarHandle" ∧ (parseMethodDescriptor yX1_fill.desc).map (fun d => d.parameters.length) = some 0 := by decide +kernel
set_option maxHeartbeats 4000000 in
set_option maxRecDepth 100000 in
theorem kX1_fill (h1 : 1 ≤ n) (h7 : n ≤ 7) (hc : ct ≤ 12) (hg : ∀ j, j < ct → PM n (gC gn j)) : mV (S := ((Nat → Int32) × (Nat → Int32))) l yX1_fill wsX1_fill ({ frames := 3, cells := 0, slots := 0, locals := 74 } : Room) [.ref h] D (gT cI cG cZ) (mW cI cZ h fa ge inn wa (nI (ct)) (nI (n)) (th) (gn) (iv) (wv)) (fun u => mW cI cZ h fa ge inn wa (nI ct) (nI n) th gn u.1 u.2) (fun u => FP n ct gn u.1) := by
  refine mV_ofW (cc := cX1_fill) (maxL := 7) (by decide) rfl (Nat.le_of_ble_eq_true rfl) ?_
  intro p e s m args below meth c QQ hx hb hml hown hts hK hP hD hS hret ls hl
  have hl : lv_has ls 7 [(0, .ref h)] := hl
  have hown : s.vm.findClass RX1 = some m.cls := hown
  have hin0 : ∀ w ∈ wsX10, w ∈ wsX1_fill := fun w h => List.mem_cons_of_mem _ (List.mem_append_right _ h)
  have hl_count : (Cond.fieldLink RX1 43 "PermGroupModel" "count" "I").before args s = true := hts _ (by decide +kernel)
  have hl_gens : (Cond.fieldLink RX1 13 "PermGroupModel" "gens" "[I").before args s = true := hts _ (by decide +kernel)
  have hl_in : (Cond.fieldLink RX1 16 "PermGroupModel" "in" "[Z").before args s = true := hts _ (by decide +kernel)
  have hl_waiting : (Cond.fieldLink RX1 20 "PermGroupModel" "waiting" "[I").before args s = true := hts _ (by decide +kernel)
  generalize inW (mW cI cZ h fa ge inn wa (nI (ct)) (nI (n)) (th) (gn) (iv) (wv)) = A at hD hS hret
  suffices start : ∀ (H : Heap) (locs : List Loc), va_P D vwCl (mW cI cZ h fa ge inn wa (nI (ct)) (nI (n)) (th) (gn) (iv) (wv)) H → va_D A (mW cI cZ h fa ge inn wa (nI (ct)) (nI (n)) (th) (gn) (iv) (wv)) → va_S A s.heap H locs → W p l e ({ frames := 3, cells := 0, slots := 0, locals := 74 } : Room) s m args below meth c H locs 0 0 QQ (F0 m 0 ls []) from start s.heap [] hP hD hS
  clear hP hD hS
  intro H locs hP hD hS
  have hf := fac_le h7
  refine lv_iconst (v := nI (0)) hx hb dX1_fill_0 (by decide) ?_
  refine lv_istore_n (lv' := [(1, .int (nI (0))), (0, .ref h)]) hx hb dX1_fill_1 rfl hl (by decide) rfl (fun ls hl => ?_)
  have loop_2 : ∀ (k i : Nat) (iz : Nat → Int32) (H : Heap) (locs : List Loc), (i + k = 5040) → (∀ j, j < i → iz j = 0) → va_P D vwCl (mW cI cZ h fa ge inn wa (nI (ct)) (nI (n)) (th) (gn) (iz) (wv)) H → va_D A (mW cI cZ h fa ge inn wa (nI (ct)) (nI (n)) (th) (gn) (iz) (wv)) → va_S A s.heap H locs → ∀ (ls : Array Slot), lv_has ls 7 [(0, .ref h), (1, .int (nI (i)))] → W p l e ({ frames := 3, cells := 0, slots := 0, locals := 74 } : Room) s m args below meth c H locs 0 0 QQ (F0 m 2 ls []) := by
    intro k
    induction k with
    | zero =>
      intro i iz H locs hk hz hP hD hS ls hl
      refine lv_iload_n hx hb dX1_fill_2 rfl (lv_at hl 1 rfl) ?_
      refine lv_sipush (v := nI (5040)) hx hb dX1_fill_3 (by decide) ?_
      refine lv_icmp_ge (tgt := 22) hx hb dX1_fill_6 (by decide) (fun c_6 => ?_) (fun c_6 => ?_)
      ·
        have c_6 := (nI_leI (by omega) (by omega)).mp c_6
        refine lv_aload_n hx hb dX1_fill_22 rfl (lv_at hl 0 rfl) ?_
        refine va_get (D := D) (ci := 1) (v := .ref inn) (C := RX1) (T := TX1) (N := 7) hx hb hts hin0 hown hK hP 0 rfl rfl 4 (by decide) hl_in (fun _ h9 => h9) rfl dX1_fill_23 ?_
        refine lv_iconst (v := nI (0)) hx hb dX1_fill_26 (by decide) ?_
        refine lv_iconst (v := nI (1)) hx hb dX1_fill_27 (by decide) ?_
        refine ua_zast hx hb hK hP hD hS 3 2 rfl rfl (by decide) (by omega) (by decide) dX1_fill_28 (fun H locs hP hD hS => ?_)
        have hP : va_P D vwCl (mW cI cZ h fa ge inn wa (nI (ct)) (nI (n)) (th) (gn) (upd (iz) (0) (nI (1))) (wv)) H := hP
        have hD : va_D A (mW cI cZ h fa ge inn wa (nI (ct)) (nI (n)) (th) (gn) (upd (iz) (0) (nI (1))) (wv)) := hD
        refine lv_aload_n hx hb dX1_fill_29 rfl (lv_at hl 0 rfl) ?_
        refine va_get (D := D) (ci := 1) (v := .ref wa) (C := RX1) (T := TX1) (N := 7) hx hb hts hin0 hown hK hP 0 rfl rfl 5 (by decide) hl_waiting (fun _ h9 => h9) rfl dX1_fill_30 ?_
        refine lv_iconst (v := nI (0)) hx hb dX1_fill_33 (by decide) ?_
        refine lv_iconst (v := nI (0)) hx hb dX1_fill_34 (by decide) ?_
        refine ua_iast hx hb hK hP hD hS 4 0 rfl rfl (by omega) (by decide) dX1_fill_35 (fun H locs hP hD hS => ?_)
        have hP : va_P D vwCl (mW cI cZ h fa ge inn wa (nI (ct)) (nI (n)) (th) (gn) (upd (iz) (0) (nI (1))) (upd (wv) (0) (nI (0)))) H := hP
        have hD : va_D A (mW cI cZ h fa ge inn wa (nI (ct)) (nI (n)) (th) (gn) (upd (iz) (0) (nI (1))) (upd (wv) (0) (nI (0)))) := hD
        refine lv_iconst (v := nI (1)) hx hb dX1_fill_36 (by decide) ?_
        refine lv_istore_n (lv' := [(1, .int (nI (1))), (0, .ref h)]) hx hb dX1_fill_37 rfl hl (by decide) rfl (fun ls hl => ?_)
        refine lv_iconst (v := nI (0)) hx hb dX1_fill_38 (by decide) ?_
        refine lv_istore_n (lv' := [(2, .int (nI (0))), (1, .int (nI (1))), (0, .ref h)]) hx hb dX1_fill_39 rfl hl (by decide) rfl (fun ls hl => ?_)
        have loop_40 : ∀ (K k la : Nat) (iz wz : Nat → Int32) (H : Heap) (locs : List Loc), (k + K = 5041) → (BI n ct gn k iz wz la) → va_P D vwCl (mW cI cZ h fa ge inn wa (nI (ct)) (nI (n)) (th) (gn) (iz) (wz)) H → va_D A (mW cI cZ h fa ge inn wa (nI (ct)) (nI (n)) (th) (gn) (iz) (wz)) → va_S A s.heap H locs → ∀ (ls : Array Slot), lv_has ls 7 [(0, .ref h), (1, .int (nI (la))), (2, .int (nI (k)))] → W p l e ({ frames := 3, cells := 0, slots := 0, locals := 74 } : Room) s m args below meth c H locs 0 0 QQ (F0 m 40 ls []) := by
          intro K
          induction K with
          | zero =>
            intro k la iz wz H locs hK1 hB hP hD hS ls hl
            exact absurd hB.2.1 (by have := hB.1; omega)
          | succ K ih_40 =>
            intro k la iz wz H locs hK1 hB hP hD hS ls hl
            have hla := hB.1
            have hkl := hB.2.1
            refine lv_iload_n hx hb dX1_fill_40 rfl (lv_at hl 2 rfl) ?_
            refine lv_iload_n hx hb dX1_fill_41 rfl (lv_at hl 1 rfl) ?_
            refine lv_icmp_ge (tgt := 134) hx hb dX1_fill_42 (by decide) (fun c_42 => ?_) (fun c_42 => ?_)
            ·
              have c_42 := (nI_leI (by omega) (by omega)).mp c_42
              exact hret (iz, wz) H locs _ _ (BI_end h1 h7 hg hB c_42) hP hS dX1_fill_134
            ·
              have c_42 : ¬ _ := fun h9 => c_42 ((nI_leI (by omega) (by omega)).mpr h9)
              refine lv_aload_n hx hb dX1_fill_45 rfl (lv_at hl 0 rfl) ?_
              refine lv_aload_n hx hb dX1_fill_46 rfl (lv_at hl 0 rfl) ?_
              refine va_get (D := D) (ci := 1) (v := .ref wa) (C := RX1) (T := TX1) (N := 7) hx hb hts hin0 hown hK hP 0 rfl rfl 5 (by decide) hl_waiting (fun _ h9 => h9) rfl dX1_fill_47 ?_
              refine lv_iload_n hx hb dX1_fill_50 rfl (lv_at hl 2 rfl) ?_
              refine va_iald hx hb hK hP 4 0 rfl rfl (vp_in_nI (by omega) (by omega)) dX1_fill_51 ?_
              refine pu_tp (nb_clamp (f := wz) (by omega)) ?_
              refine pu_tp (z := nI (tn (wz k))) ((nI_tn _).symm) ?_
              refine pu_V (As := [.int (nI (tn (wz k)))]) (rest := []) (b := h) ⟨hx, hb, hml, hown, hts⟩ (kX1_permutation hP h7 (q := tn (wz k)) (by have := (BI_wv h7 hB (show k < la by omega)).1; omega)) (cwV 1 hts gX1_fill_X1_permutation rfl rfl rfl eX1_permutation ⟨by decide, by decide⟩) (va_recv hK hP (ci := 1) (q0 := 0) rfl rfl) hK rfl hl.1 rfl (Nat.le_of_ble_eq_true rfl) dX1_fill_52 ⟨Nat.zero_le _, Nat.zero_le _⟩ ?_
              refine lv_istore_n (lv' := [(3, .int (nI (pe n (tn (wz k))))), (0, .ref h), (1, .int (nI (la))), (2, .int (nI (k)))]) hx hb dX1_fill_55 rfl hl (by decide) rfl (fun ls hl => ?_)
              have hJ0 := BJ_in hB (show k < la by omega)
              generalize pe n (tn (wz k)) = Pp at hJ0 hl
              refine lv_iconst (v := nI (0)) hx hb dX1_fill_56 (by decide) ?_
              refine lv_istore (lv' := [(4, .int (nI (0))), (3, .int (nI (Pp))), (0, .ref h), (1, .int (nI (la))), (2, .int (nI (k)))]) hx hb dX1_fill_57 hl (by decide) rfl (fun ls hl => ?_)
              have loop_59 : ∀ (J t lb : Nat) (iy wy : Nat → Int32) (H : Heap) (locs : List Loc), (t + J = ct) → (BJ n ct gn k t Pp iy wy lb) → va_P D vwCl (mW cI cZ h fa ge inn wa (nI (ct)) (nI (n)) (th) (gn) (iy) (wy)) H → va_D A (mW cI cZ h fa ge inn wa (nI (ct)) (nI (n)) (th) (gn) (iy) (wy)) → va_S A s.heap H locs → ∀ (ls : Array Slot), lv_has ls 7 [(0, .ref h), (1, .int (nI (lb))), (2, .int (nI (k))), (3, .int (nI (Pp))), (4, .int (nI (t)))] → W p l e ({ frames := 3, cells := 0, slots := 0, locals := 74 } : Room) s m args below meth c H locs 0 0 QQ (F0 m 59 ls []) := by
                intro J
                induction J with
                | zero =>
                  intro t lb iy wy H locs hJ1 hJ hP hD hS ls hl
                  refine lv_iload hx hb dX1_fill_59 (lv_at hl 4 rfl) ?_
                  refine lv_aload_n hx hb dX1_fill_61 rfl (lv_at hl 0 rfl) ?_
                  refine va_get (D := D) (ci := 1) (v := .int (nI (ct))) (C := RX1) (T := TX1) (N := 7) hx hb hts hin0 hown hK hP 0 rfl rfl 2 (by decide) hl_count (fun _ h9 => h9) rfl dX1_fill_62 ?_
                  refine lv_icmp_ge (tgt := 128) hx hb dX1_fill_65 (by decide) (fun c_65 => ?_) (fun c_65 => ?_)
                  ·
                    have c_65 := (nI_leI (by omega) (by omega)).mp c_65
                    refine lv_iinc (v := nI (k + 1)) (lv' := [(2, .int (nI (k + 1))), (0, .ref h), (1, .int (nI (lb))), (3, .int (nI (Pp))), (4, .int (nI (t)))]) hx hb dX1_fill_128 hl (k := 2) rfl (nI_1 _) (by decide) rfl (fun ls hl => ?_)
                    refine lv_goto (tgt := 40) hx hb dX1_fill_131 (by decide) ?_
                    exact ih_40 (k + 1) lb iy wy H locs (by omega) (BJ_out (by rw [show ct = t by omega]; rw [show ct = t by omega] at hJ; exact hJ)) hP hD hS ls (lv_sub hl [1, 2, 0] rfl)
                  ·
                    have c_65 : ¬ _ := fun h9 => c_65 ((nI_leI (by omega) (by omega)).mpr h9)
                    exfalso; omega
                | succ J ih_59 =>
                  intro t lb iy wy H locs hJ1 hJ hP hD hS ls hl
                  have hlb := hJ.1.1
                  obtain ⟨q1, q2, q3, q4⟩ := BJ_prod h1 h7 hg hJ (show t < ct by omega)
                  have q5 := PM_lt h7 q1
                  have q6 := PM_lt h7 q2
                  have q7 := PM_lt h7 (hg t (by omega))
                  have q7 : tn (gn t) < 2 ^ 24 := q7
                  refine lv_iload hx hb dX1_fill_59 (lv_at hl 4 rfl) ?_
                  refine lv_aload_n hx hb dX1_fill_61 rfl (lv_at hl 0 rfl) ?_
                  refine va_get (D := D) (ci := 1) (v := .int (nI (ct))) (C := RX1) (T := TX1) (N := 7) hx hb hts hin0 hown hK hP 0 rfl rfl 2 (by decide) hl_count (fun _ h9 => h9) rfl dX1_fill_62 ?_
                  refine lv_icmp_ge (tgt := 128) hx hb dX1_fill_65 (by decide) (fun c_65 => ?_) (fun c_65 => ?_)
                  ·
                    have c_65 := (nI_leI (by omega) (by omega)).mp c_65
                    exfalso; omega
                  ·
                    have c_65 : ¬ _ := fun h9 => c_65 ((nI_leI (by omega) (by omega)).mpr h9)
                    refine lv_aload_n hx hb dX1_fill_68 rfl (lv_at hl 0 rfl) ?_
                    refine lv_iload_n hx hb dX1_fill_69 rfl (lv_at hl 3 rfl) ?_
                    refine lv_aload_n hx hb dX1_fill_70 rfl (lv_at hl 0 rfl) ?_
                    refine va_get (D := D) (ci := 1) (v := .ref ge) (C := RX1) (T := TX1) (N := 7) hx hb hts hin0 hown hK hP 0 rfl rfl 1 (by decide) hl_gens (fun _ h9 => h9) rfl dX1_fill_71 ?_
                    refine lv_iload hx hb dX1_fill_74 (lv_at hl 4 rfl) ?_
                    refine va_iald hx hb hK hP 2 0 rfl rfl (vp_in_nI (by omega) (by omega)) dX1_fill_76 ?_
                    refine pu_tp (nb_clamp (f := gn) (by omega)) ?_
                    refine pu_tp (z := nI (tn (gn t))) ((nI_tn _).symm) ?_
                    refine pu_V (As := [.int (nI (Pp)), .int (nI (tn (gn t)))]) (rest := []) (b := h) ⟨hx, hb, hml, hown, hts⟩ (kX1_times hP h7 (P := Pp) (Q := tn (gn t)) (by omega) (by omega)) (cwV 2 hts gX1_fill_X1_times rfl rfl rfl eX1_times ⟨by decide, by decide⟩) (va_recv hK hP (ci := 1) (q0 := 0) rfl rfl) hK rfl hl.1 rfl (Nat.le_of_ble_eq_true rfl) dX1_fill_77 ⟨Nat.zero_le _, Nat.zero_le _⟩ ?_
                    refine lv_istore (lv' := [(5, .int (nI (tm n Pp (tn (gn t))))), (0, .ref h), (1, .int (nI (lb))), (2, .int (nI (k))), (3, .int (nI (Pp))), (4, .int (nI (t)))]) hx hb dX1_fill_80 hl (by decide) rfl (fun ls hl => ?_)
                    refine lv_aload_n hx hb dX1_fill_82 rfl (lv_at hl 1 rfl) ?_
                    refine lv_iload hx hb dX1_fill_83 (lv_at hl 0 rfl) ?_
                    refine pu_V (As := [.int (nI (tm n Pp (tn (gn t))))]) (rest := []) (b := h) ⟨hx, hb, hml, hown, hts⟩ (kX1_numberOf hP h7 (P := tm n Pp (tn (gn t))) (by omega)) (cwV 1 hts gX1_fill_X1_numberOf rfl rfl rfl eX1_numberOf ⟨by decide, by decide⟩) (va_recv hK hP (ci := 1) (q0 := 0) rfl rfl) hK rfl hl.1 rfl (Nat.le_of_ble_eq_true rfl) dX1_fill_85 ⟨Nat.zero_le _, Nat.zero_le _⟩ ?_
                    refine lv_istore (lv' := [(6, .int (nI (nu n (tm n Pp (tn (gn t)))))), (5, .int (nI (tm n Pp (tn (gn t))))), (0, .ref h), (1, .int (nI (lb))), (2, .int (nI (k))), (3, .int (nI (Pp))), (4, .int (nI (t)))]) hx hb dX1_fill_88 hl (by decide) rfl (fun ls hl => ?_)
                    refine lv_aload_n hx hb dX1_fill_90 rfl (lv_at hl 2 rfl) ?_
                    refine va_get (D := D) (ci := 1) (v := .ref inn) (C := RX1) (T := TX1) (N := 7) hx hb hts hin0 hown hK hP 0 rfl rfl 4 (by decide) hl_in (fun _ h9 => h9) rfl dX1_fill_91 ?_
                    refine lv_iload hx hb dX1_fill_94 (lv_at hl 0 rfl) ?_
                    refine va_zald hx hb hK hP 3 2 rfl rfl (vp_in_nI (by omega) (by omega)) dX1_fill_96 ?_
                    refine pu_tp (nb_clamp (f := iy) (by omega)) ?_
                    refine lv_if_eq (tgt := 103) hx hb dX1_fill_97 (by decide) (fun c_97 => ?_) (fun c_97 => ?_)
                    ·
                      have hroom := BI_room h7 hJ.1 q3 c_97
                      refine lv_aload_n hx hb dX1_fill_103 rfl (lv_at hl 2 rfl) ?_
                      refine va_get (D := D) (ci := 1) (v := .ref inn) (C := RX1) (T := TX1) (N := 7) hx hb hts hin0 hown hK hP 0 rfl rfl 4 (by decide) hl_in (fun _ h9 => h9) rfl dX1_fill_104 ?_
                      refine lv_iload hx hb dX1_fill_107 (lv_at hl 0 rfl) ?_
                      refine lv_iconst (v := nI (1)) hx hb dX1_fill_109 (by decide) ?_
                      refine ua_zast hx hb hK hP hD hS 3 2 rfl rfl (by decide) (by omega) (by decide) dX1_fill_110 (fun H locs hP hD hS => ?_)
                      have hP : va_P D vwCl (mW cI cZ h fa ge inn wa (nI (ct)) (nI (n)) (th) (gn) (upd (iy) (nu n (tm n Pp (tn (gn t)))) (nI (1))) (wy)) H := hP
                      have hD : va_D A (mW cI cZ h fa ge inn wa (nI (ct)) (nI (n)) (th) (gn) (upd (iy) (nu n (tm n Pp (tn (gn t)))) (nI (1))) (wy)) := hD
                      refine lv_aload_n hx hb dX1_fill_111 rfl (lv_at hl 2 rfl) ?_
                      refine va_get (D := D) (ci := 1) (v := .ref wa) (C := RX1) (T := TX1) (N := 7) hx hb hts hin0 hown hK hP 0 rfl rfl 5 (by decide) hl_waiting (fun _ h9 => h9) rfl dX1_fill_112 ?_
                      refine lv_iload_n hx hb dX1_fill_115 rfl (lv_at hl 3 rfl) ?_
                      refine lv_iload hx hb dX1_fill_116 (lv_at hl 0 rfl) ?_
                      refine ua_iast hx hb hK hP hD hS 4 0 rfl rfl (by omega) (by decide) dX1_fill_118 (fun H locs hP hD hS => ?_)
                      have hP : va_P D vwCl (mW cI cZ h fa ge inn wa (nI (ct)) (nI (n)) (th) (gn) (upd (iy) (nu n (tm n Pp (tn (gn t)))) (nI (1))) (upd (wy) (lb) (nI (nu n (tm n Pp (tn (gn t))))))) H := hP
                      have hD : va_D A (mW cI cZ h fa ge inn wa (nI (ct)) (nI (n)) (th) (gn) (upd (iy) (nu n (tm n Pp (tn (gn t)))) (nI (1))) (upd (wy) (lb) (nI (nu n (tm n Pp (tn (gn t))))))) := hD
                      refine lv_iinc (v := nI (lb + 1)) (lv' := [(1, .int (nI (lb + 1))), (6, .int (nI (nu n (tm n Pp (tn (gn t)))))), (5, .int (nI (tm n Pp (tn (gn t))))), (0, .ref h), (2, .int (nI (k))), (3, .int (nI (Pp))), (4, .int (nI (t)))]) hx hb dX1_fill_119 hl (k := 3) rfl (nI_1 _) (by decide) rfl (fun ls hl => ?_)
                      refine lv_iinc (v := nI (t + 1)) (lv' := [(4, .int (nI (t + 1))), (1, .int (nI (lb + 1))), (6, .int (nI (nu n (tm n Pp (tn (gn t)))))), (5, .int (nI (tm n Pp (tn (gn t))))), (0, .ref h), (2, .int (nI (k))), (3, .int (nI (Pp)))]) hx hb dX1_fill_122 hl (k := 6) rfl (nI_1 _) (by decide) rfl (fun ls hl => ?_)
                      refine lv_goto (tgt := 59) hx hb dX1_fill_125 (by decide) ?_
                      exact ih_59 (t + 1) (lb + 1) (upd iy (nu n (tm n Pp (tn (gn t)))) (nI 1)) (upd wy lb (nI (nu n (tm n Pp (tn (gn t)))))) H locs (by omega) (BJ_push h1 h7 hg hJ (by omega) rfl c_97) hP hD hS ls (lv_sub hl [4, 1, 5, 6, 0] rfl)
                    ·
                      refine lv_goto (tgt := 122) hx hb dX1_fill_100 (by decide) ?_
                      refine lv_iinc (v := nI (t + 1)) (lv' := [(4, .int (nI (t + 1))), (6, .int (nI (nu n (tm n Pp (tn (gn t)))))), (5, .int (nI (tm n Pp (tn (gn t))))), (0, .ref h), (1, .int (nI (lb))), (2, .int (nI (k))), (3, .int (nI (Pp)))]) hx hb dX1_fill_122 hl (k := 6) rfl (nI_1 _) (by decide) rfl (fun ls hl => ?_)
                      refine lv_goto (tgt := 59) hx hb dX1_fill_125 (by decide) ?_
                      exact ih_59 (t + 1) lb iy wy H locs (by omega) (BJ_skip hJ ((hJ.1.2.2.1 _ (by omega)).resolve_left c_97)) hP hD hS ls (lv_sub hl [3, 4, 5, 6, 0] rfl)
              exact loop_59 ct 0 la iz wz H locs (by omega) hJ0 hP hD hS ls (lv_sub hl [2, 3, 4, 1, 0] rfl)
        exact loop_40 5041 0 1 (upd iz 0 (nI 1)) (upd wv 0 (nI 0)) H locs (by omega) (BI_0 h1 h7 (fun j hj => hz j (by omega))) hP hD hS ls (lv_sub hl [2, 1, 0] rfl)
      ·
        have c_6 : ¬ _ := fun h9 => c_6 ((nI_leI (by omega) (by omega)).mpr h9)
        exfalso; omega
    | succ k ih_2 =>
      intro i iz H locs hk hz hP hD hS ls hl
      refine lv_iload_n hx hb dX1_fill_2 rfl (lv_at hl 1 rfl) ?_
      refine lv_sipush (v := nI (5040)) hx hb dX1_fill_3 (by decide) ?_
      refine lv_icmp_ge (tgt := 22) hx hb dX1_fill_6 (by decide) (fun c_6 => ?_) (fun c_6 => ?_)
      ·
        have c_6 := (nI_leI (by omega) (by omega)).mp c_6
        exfalso; omega
      ·
        have c_6 : ¬ _ := fun h9 => c_6 ((nI_leI (by omega) (by omega)).mpr h9)
        refine lv_aload_n hx hb dX1_fill_9 rfl (lv_at hl 0 rfl) ?_
        refine va_get (D := D) (ci := 1) (v := .ref inn) (C := RX1) (T := TX1) (N := 7) hx hb hts hin0 hown hK hP 0 rfl rfl 4 (by decide) hl_in (fun _ h9 => h9) rfl dX1_fill_10 ?_
        refine lv_iload_n hx hb dX1_fill_13 rfl (lv_at hl 1 rfl) ?_
        refine lv_iconst (v := nI (0)) hx hb dX1_fill_14 (by decide) ?_
        refine ua_zast hx hb hK hP hD hS 3 2 rfl rfl (by decide) (by omega) (by decide) dX1_fill_15 (fun H locs hP hD hS => ?_)
        have hP : va_P D vwCl (mW cI cZ h fa ge inn wa (nI (ct)) (nI (n)) (th) (gn) (upd (iz) (i) (nI (0))) (wv)) H := hP
        have hD : va_D A (mW cI cZ h fa ge inn wa (nI (ct)) (nI (n)) (th) (gn) (upd (iz) (i) (nI (0))) (wv)) := hD
        refine lv_iinc (v := nI (i + 1)) (lv' := [(1, .int (nI (i + 1))), (0, .ref h)]) hx hb dX1_fill_16 hl (k := 1) rfl (nI_1 _) (by decide) rfl (fun ls hl => ?_)
        refine lv_goto (tgt := 2) hx hb dX1_fill_19 (by decide) ?_
        exact ih_2 (i + 1) (upd iz i (nI 0)) H locs (by omega) (fun j hj => by
          by_cases e9 : j = i
          · rw [e9]; exact pk_us
          · rw [pk_un e9]; exact hz j (by omega)) hP hD hS ls (lv_sub hl [1, 0] rfl)
  exact loop_2 5040 0 iv H locs (by omega) (fun j hj => absurd hj (Nat.not_lt_zero _)) hP hD hS ls (lv_sub hl [1, 0] rfl)
end CXH
end
section
/-! ===== the reference's questions, loop by loop, over its table iv ===== -/
def elS (iv : Nat → Int32) : Nat → Nat → Nat → Nat
  | 0, m, _ => m
  | k + 1, m, l => if iv m = 0 then elS iv k (m + 1) l else if l = 0 then m else elS iv k (m + 1) (l - 1)
def leF (n : Nat) (iv : Nat → Int32) (P : Nat) : Nat → Nat → Nat → Nat
  | 0, _, be => be
  | j + 1, k, be => leF n iv P j (k + 1) (if iv k = 0 then be else if nu n (tm n (pe n k) P) < be then nu n (tm n (pe n k) P) else be)
def orF (n : Nat) (iv : Nat → Int32) (X : Nat) : Nat → Nat → Nat → Nat
  | 0, _, s => s
  | j + 1, k, s => orF n iv X j (k + 1) (if iv k = 0 then s else s ||| 1 * 2 ^ im (pe n k) X)
def fiI (P : Nat) : Nat → Nat → Bool → Bool
  | 0, _, b => b
  | j + 1, i, b => fiI P j (i + 1) (if im P i = i then b else false)
def fiF (n : Nat) (iv : Nat → Int32) (X : Nat) : Nat → Nat → Nat → Nat
  | 0, _, c => c
  | j + 1, k, c => fiF n iv X j (k + 1) (if iv k = 0 then c else if fiI (pe n k) X 0 true = true then c + 1 else c)
def erJ (P i : Nat) : Nat → Nat → Nat → Nat
  | 0, _, a => a
  | k + 1, j, a => erJ P i k (j + 1) (if im P j < im P i then a + 1 else a)
def erI (n P : Nat) : Nat → Nat → Nat → Nat
  | 0, _, a => a
  | k + 1, i, a => erI n P k (i + 1) (erJ P i (n - (i + 1)) (i + 1) a)
def erF (n : Nat) (iv : Nat → Int32) : Nat → Nat → Nat → Nat
  | 0, _, c => c
  | j + 1, k, c => erF n iv j (k + 1) (if iv k = 0 then c else if erI n (pe n k) n 0 0 % 2 = 0 then c + 1 else c)
section DF3
variable {n : Nat} {iv : Nat → Int32}
theorem elS_n {k m l : Nat} (c : iv m = 0) : elS iv (k + 1) m l = elS iv k (m + 1) l := if_pos c
theorem elS_h {k m l : Nat} (c : ¬ iv m = 0) (d : l = 0) : elS iv (k + 1) m l = m := (if_neg c).trans (if_pos d)
theorem elS_s {k m l : Nat} (c : ¬ iv m = 0) (d : ¬ l = 0) : elS iv (k + 1) m l = elS iv k (m + 1) (l - 1) := (if_neg c).trans (if_neg d)
theorem leF_n {P j k be : Nat} (c : iv k = 0) : leF n iv P (j + 1) k be = leF n iv P j (k + 1) be := by show leF n iv P j (k + 1) (if iv k = 0 then be else if nu n (tm n (pe n k) P) < be then nu n (tm n (pe n k) P) else be) = _; rw [if_pos c]
theorem leF_y {P j k be : Nat} (c : ¬ iv k = 0) (d : nu n (tm n (pe n k) P) < be) : leF n iv P (j + 1) k be = leF n iv P j (k + 1) (nu n (tm n (pe n k) P)) := by show leF n iv P j (k + 1) (if iv k = 0 then be else if nu n (tm n (pe n k) P) < be then nu n (tm n (pe n k) P) else be) = _; rw [if_neg c, if_pos d]
theorem leF_m {P j k be : Nat} (c : ¬ iv k = 0) (d : ¬ nu n (tm n (pe n k) P) < be) : leF n iv P (j + 1) k be = leF n iv P j (k + 1) be := by show leF n iv P j (k + 1) (if iv k = 0 then be else if nu n (tm n (pe n k) P) < be then nu n (tm n (pe n k) P) else be) = _; rw [if_neg c, if_neg d]
theorem orF_n {X j k s : Nat} (c : iv k = 0) : orF n iv X (j + 1) k s = orF n iv X j (k + 1) s := by show orF n iv X j (k + 1) (if iv k = 0 then s else s ||| 1 * 2 ^ im (pe n k) X) = _; rw [if_pos c]
theorem orF_y {X j k s : Nat} (c : ¬ iv k = 0) : orF n iv X (j + 1) k s = orF n iv X j (k + 1) (s ||| 1 * 2 ^ im (pe n k) X) := by show orF n iv X j (k + 1) (if iv k = 0 then s else s ||| 1 * 2 ^ im (pe n k) X) = _; rw [if_neg c]
theorem fiI_t {P j i : Nat} {b : Bool} (c : im P i = i) : fiI P (j + 1) i b = fiI P j (i + 1) b := by show fiI P j (i + 1) (if im P i = i then b else false) = _; rw [if_pos c]
theorem fiI_f {P j i : Nat} {b : Bool} (c : ¬ im P i = i) : fiI P (j + 1) i b = fiI P j (i + 1) false := by show fiI P j (i + 1) (if im P i = i then b else false) = _; rw [if_neg c]
theorem fiF_n {X j k c : Nat} (h : iv k = 0) : fiF n iv X (j + 1) k c = fiF n iv X j (k + 1) c := by show fiF n iv X j (k + 1) (if iv k = 0 then c else if fiI (pe n k) X 0 true = true then c + 1 else c) = _; rw [if_pos h]
theorem fiF_y {X j k c : Nat} (h : ¬ iv k = 0) (d : fiI (pe n k) X 0 true = true) : fiF n iv X (j + 1) k c = fiF n iv X j (k + 1) (c + 1) := by show fiF n iv X j (k + 1) (if iv k = 0 then c else if fiI (pe n k) X 0 true = true then c + 1 else c) = _; rw [if_neg h, if_pos d]
theorem fiF_m {X j k c : Nat} (h : ¬ iv k = 0) (d : fiI (pe n k) X 0 true = false) : fiF n iv X (j + 1) k c = fiF n iv X j (k + 1) c := by show fiF n iv X j (k + 1) (if iv k = 0 then c else if fiI (pe n k) X 0 true = true then c + 1 else c) = _; rw [if_neg h, if_neg (by rw [d]; decide)]
theorem erJ_t {P i k j a : Nat} (c : im P j < im P i) : erJ P i (k + 1) j a = erJ P i k (j + 1) (a + 1) := by show erJ P i k (j + 1) (if im P j < im P i then a + 1 else a) = _; rw [if_pos c]
theorem erJ_f {P i k j a : Nat} (c : ¬ im P j < im P i) : erJ P i (k + 1) j a = erJ P i k (j + 1) a := by show erJ P i k (j + 1) (if im P j < im P i then a + 1 else a) = _; rw [if_neg c]
theorem erF_n {j k c : Nat} (h : iv k = 0) : erF n iv (j + 1) k c = erF n iv j (k + 1) c := by show erF n iv j (k + 1) (if iv k = 0 then c else if erI n (pe n k) n 0 0 % 2 = 0 then c + 1 else c) = _; rw [if_pos h]
theorem erF_y {j k c : Nat} (h : ¬ iv k = 0) (d : erI n (pe n k) n 0 0 % 2 = 0) : erF n iv (j + 1) k c = erF n iv j (k + 1) (c + 1) := by show erF n iv j (k + 1) (if iv k = 0 then c else if erI n (pe n k) n 0 0 % 2 = 0 then c + 1 else c) = _; rw [if_neg h, if_pos d]
theorem erF_m {j k c : Nat} (h : ¬ iv k = 0) (d : ¬ erI n (pe n k) n 0 0 % 2 = 0) : erF n iv (j + 1) k c = erF n iv j (k + 1) c := by show erF n iv j (k + 1) (if iv k = 0 then c else if erI n (pe n k) n 0 0 % 2 = 0 then c + 1 else c) = _; rw [if_neg h, if_neg d]
theorem elS_le : ∀ k m l, elS iv k m l ≤ m + k
  | 0, _, _ => Nat.le_refl _
  | k + 1, m, l => by
      by_cases c : iv m = 0
      · rw [elS_n c]; have := elS_le k (m + 1) l; omega
      · by_cases d : l = 0
        · rw [elS_h c d]; omega
        · rw [elS_s c d]; have := elS_le k (m + 1) (l - 1); omega
end DF3
theorem erJ_le (P i : Nat) : ∀ k j a, erJ P i k j a ≤ a + k
  | 0, _, _ => Nat.le_refl _
  | k + 1, j, a => by
      by_cases c : im P j < im P i
      · rw [erJ_t c]; have := erJ_le P i k (j + 1) (a + 1); omega
      · rw [erJ_f c]; have := erJ_le P i k (j + 1) a; omega
end
section
section CXI
variable {l : Launch} {D : va_G} {cI cG cZ : ClassId} {h fa ge inn wa : Nat} {ct n : Nat} {th : Int32} {gn iv wv : Nat → Int32}
theorem eX1_order : yX1_order.cls = RX1 ∧ yX1_order.cls ≠ "java/lang/invoke/MethodHandle" ∧ yX1_order.cls ≠ "java/lang/invoke/VarHandle" ∧ (parseMethodDescriptor yX1_order.desc).map (fun d => d.parameters.length) = some 0 := by decide +kernel
set_option maxHeartbeats 4000000 in
set_option maxRecDepth 100000 in
theorem kX1_order (h1 : 1 ≤ n) (h7 : n ≤ 7) (hc : ct ≤ 12) (hg : ∀ j, j < ct → PM n (gC gn j)) : mI (S := ((Nat → Int32) × (Nat → Int32))) l yX1_order wsX1_order ({ frames := 4, cells := 0, slots := 0, locals := 100 } : Room) [.ref h] D (gT cI cG cZ) (mW cI cZ h fa ge inn wa (nI (ct)) (nI (n)) (th) (gn) (iv) (wv)) (fun u => mW cI cZ h fa ge inn wa (nI ct) (nI n) th gn u.1 u.2) (fun r u => FP n ct gn u.1 ∧ r = nI (bl u.1 (fac n))) := by
  refine mI_ofW (cc := cX1_order) (maxL := 1) (ret := (some .int)) (by decide) rfl (Or.inl rfl) (Nat.le_of_ble_eq_true rfl) ?_
  intro p e s m args below meth c QQ hx hb hml hown hts hK hP hD hS hret ls hl
  have hl : lv_has ls 1 [(0, .ref h)] := hl
  have hown : s.vm.findClass RX1 = some m.cls := hown
  have hin0 : ∀ w ∈ wsX10, w ∈ wsX1_order := fun w h => List.mem_cons_of_mem _ (List.mem_append_right _ h)
  generalize inW (mW cI cZ h fa ge inn wa (nI (ct)) (nI (n)) (th) (gn) (iv) (wv)) = A at hD hS hret
  suffices start : ∀ (H : Heap) (locs : List Loc), va_P D vwCl (mW cI cZ h fa ge inn wa (nI (ct)) (nI (n)) (th) (gn) (iv) (wv)) H → va_D A (mW cI cZ h fa ge inn wa (nI (ct)) (nI (n)) (th) (gn) (iv) (wv)) → va_S A s.heap H locs → W p l e ({ frames := 4, cells := 0, slots := 0, locals := 100 } : Room) s m args below meth c H locs 0 0 QQ (F0 m 0 ls []) from start s.heap [] hP hD hS
  clear hP hD hS
  intro H locs hP hD hS
  have hf := fac_le h7
  refine lv_aload_n hx hb dX1_order_0 rfl (lv_at hl 0 rfl) ?_
  refine mv_V (As := []) (rest := []) (b := h) ⟨hx, hb, hml, hown, hts⟩ (kX1_fill h1 h7 hc hg) (cwV 0 hts gX1_order_X1_fill rfl rfl rfl eX1_fill ⟨by decide, by decide⟩) (va_recv hK hP (ci := 1) (q0 := 0) rfl rfl) hK hP hD hS rfl hl.1 rfl (Nat.le_of_ble_eq_true rfl) dX1_order_1 ⟨Nat.zero_le _, Nat.zero_le _⟩ (fun u H locs hw hP hS hk => ?_)
  obtain ⟨iw, ww⟩ := u
  have hP : va_P D vwCl (mW cI cZ h fa ge inn wa (nI (ct)) (nI (n)) (th) (gn) (iw) (ww)) H := hP
  have hD : va_D A (mW cI cZ h fa ge inn wa (nI (ct)) (nI (n)) (th) (gn) (iw) (ww)) := mW_addr hD
  have hw : FP n ct gn iw := hw
  refine lv_aload_n hx hb dX1_order_4 rfl (lv_at hl 0 rfl) ?_
  refine lv_aload_n hx hb dX1_order_5 rfl (lv_at hl 0 rfl) ?_
  refine pu_V (As := []) (rest := [.ref h]) (b := h) ⟨hx, hb, hml, hown, hts⟩ (kX1_all hP h7) (cwV 0 hts gX1_order_X1_all rfl rfl rfl eX1_all ⟨by decide, by decide⟩) (va_recv hK hP (ci := 1) (q0 := 0) rfl rfl) hK rfl hl.1 rfl (Nat.le_of_ble_eq_true rfl) dX1_order_6 ⟨Nat.zero_le _, Nat.zero_le _⟩ ?_
  refine pu_V (As := [.int (nI (fac n))]) (rest := []) (b := h) ⟨hx, hb, hml, hown, hts⟩ (kX1_below hP (k := fac n) hf) (cwV 1 hts gX1_order_X1_below rfl rfl rfl eX1_below ⟨by decide, by decide⟩) (va_recv hK hP (ci := 1) (q0 := 0) rfl rfl) hK rfl hl.1 rfl (Nat.le_of_ble_eq_true rfl) dX1_order_9 ⟨Nat.zero_le _, Nat.zero_le _⟩ ?_
  exact hret (iw, ww) H locs _ _ _ ⟨hw, rfl⟩ hP hS dX1_order_12
theorem eX1_contains : yX1_contains.cls = RX1 ∧ yX1_contains.cls ≠ "java/lang/invoke/MethodHandle" ∧ yX1_contains.cls ≠ "java/lang/invoke/VarHandle" ∧ (parseMethodDescriptor yX1_contains.desc).map (fun d => d.parameters.length) = some 1 := by decide +kernel
set_option maxHeartbeats 4000000 in
set_option maxRecDepth 100000 in
theorem kX1_contains (h1 : 1 ≤ n) (h7 : n ≤ 7) (hc : ct ≤ 12) (hg : ∀ j, j < ct → PM n (gC gn j)) {P : Nat} (hp : P < 2 ^ 32) : mI (S := ((Nat → Int32) × (Nat → Int32))) l yX1_contains wsX1_contains ({ frames := 4, cells := 0, slots := 0, locals := 100 } : Room) [.ref h, .int (nI (P))] D (gT cI cG cZ) (mW cI cZ h fa ge inn wa (nI (ct)) (nI (n)) (th) (gn) (iv) (wv)) (fun u => mW cI cZ h fa ge inn wa (nI ct) (nI n) th gn u.1 u.2) (fun r u => (isP n P = false ∧ r = 0 ∧ u = (iv, wv)) ∨ (isP n P = true ∧ FP n ct gn u.1 ∧ r = u.1 (nu n P))) := by
  refine mI_ofW (cc := cX1_contains) (maxL := 2) (ret := (some .boolean)) (by decide) rfl (Or.inr ⟨rfl, fun v u q => q.elim (fun q => Or.inl q.2.1) (fun q => by rw [q.2.2]; exact q.2.1.1 _ (Nat.lt_of_lt_of_le (nu_lt h1 h7 (isP_PM.mp q.1)) (fac_le h7)))⟩) (Nat.le_of_ble_eq_true rfl) ?_
  intro p e s m args below meth c QQ hx hb hml hown hts hK hP hD hS hret ls hl
  have hl : lv_has ls 2 [(0, .ref h), (1, .int (nI (P)))] := hl
  have hown : s.vm.findClass RX1 = some m.cls := hown
  have hin0 : ∀ w ∈ wsX10, w ∈ wsX1_contains := fun w h => List.mem_cons_of_mem _ (List.mem_append_right _ h)
  have hl_in : (Cond.fieldLink RX1 16 "PermGroupModel" "in" "[Z").before args s = true := hts _ (by decide +kernel)
  generalize inW (mW cI cZ h fa ge inn wa (nI (ct)) (nI (n)) (th) (gn) (iv) (wv)) = A at hD hS hret
  suffices start : ∀ (H : Heap) (locs : List Loc), va_P D vwCl (mW cI cZ h fa ge inn wa (nI (ct)) (nI (n)) (th) (gn) (iv) (wv)) H → va_D A (mW cI cZ h fa ge inn wa (nI (ct)) (nI (n)) (th) (gn) (iv) (wv)) → va_S A s.heap H locs → W p l e ({ frames := 4, cells := 0, slots := 0, locals := 100 } : Room) s m args below meth c H locs 0 0 QQ (F0 m 0 ls []) from start s.heap [] hP hD hS
  clear hP hD hS
  intro H locs hP hD hS
  have hf := fac_le h7
  refine lv_aload_n hx hb dX1_contains_0 rfl (lv_at hl 0 rfl) ?_
  refine lv_iload_n hx hb dX1_contains_1 rfl (lv_at hl 1 rfl) ?_
  refine pu_V (As := [.int (nI (P))]) (rest := []) (b := h) ⟨hx, hb, hml, hown, hts⟩ (kX1_isPermutation hP h7 (P := P) hp) (cwV 1 hts gX1_contains_X1_isPermutation rfl rfl rfl eX1_isPermutation ⟨by decide, by decide⟩) (va_recv hK hP (ci := 1) (q0 := 0) rfl rfl) hK rfl hl.1 rfl (Nat.le_of_ble_eq_true rfl) dX1_contains_2 ⟨Nat.zero_le _, Nat.zero_le _⟩ ?_
  refine lv_if_ne (tgt := 10) hx hb dX1_contains_5 (by decide) (fun c_5 => ?_) (fun c_5 => ?_)
  ·
    have c_5 := b01_t c_5
    refine lv_aload_n hx hb dX1_contains_10 rfl (lv_at hl 0 rfl) ?_
    refine mv_V (As := []) (rest := []) (b := h) ⟨hx, hb, hml, hown, hts⟩ (kX1_fill h1 h7 hc hg) (cwV 0 hts gX1_contains_X1_fill rfl rfl rfl eX1_fill ⟨by decide, by decide⟩) (va_recv hK hP (ci := 1) (q0 := 0) rfl rfl) hK hP hD hS rfl hl.1 rfl (Nat.le_of_ble_eq_true rfl) dX1_contains_11 ⟨Nat.zero_le _, Nat.zero_le _⟩ (fun u H locs hw hP hS hk => ?_)
    obtain ⟨iw, ww⟩ := u
    have hP : va_P D vwCl (mW cI cZ h fa ge inn wa (nI (ct)) (nI (n)) (th) (gn) (iw) (ww)) H := hP
    have hD : va_D A (mW cI cZ h fa ge inn wa (nI (ct)) (nI (n)) (th) (gn) (iw) (ww)) := mW_addr hD
    have hw : FP n ct gn iw := hw
    refine lv_aload_n hx hb dX1_contains_14 rfl (lv_at hl 0 rfl) ?_
    refine va_get (D := D) (ci := 1) (v := .ref inn) (C := RX1) (T := TX1) (N := 7) hx hb hts hin0 hown hK hP 0 rfl rfl 4 (by decide) hl_in (fun _ h9 => h9) rfl dX1_contains_15 ?_
    refine lv_aload_n hx hb dX1_contains_18 rfl (lv_at hl 0 rfl) ?_
    refine lv_iload_n hx hb dX1_contains_19 rfl (lv_at hl 1 rfl) ?_
    refine pu_V (As := [.int (nI (P))]) (rest := [.ref inn]) (b := h) ⟨hx, hb, hml, hown, hts⟩ (kX1_numberOf hP h7 (P := P) (Nat.lt_trans (isP_lt h7 c_5) (by decide))) (cwV 1 hts gX1_contains_X1_numberOf rfl rfl rfl eX1_numberOf ⟨by decide, by decide⟩) (va_recv hK hP (ci := 1) (q0 := 0) rfl rfl) hK rfl hl.1 rfl (Nat.le_of_ble_eq_true rfl) dX1_contains_20 ⟨Nat.zero_le _, Nat.zero_le _⟩ ?_
    refine va_zald hx hb hK hP 3 2 rfl rfl (vp_in_nI (Nat.lt_of_lt_of_le (nu_lt h1 h7 (isP_PM.mp c_5)) hf) (by decide)) dX1_contains_23 ?_
    refine pu_tp (nb_clamp (f := iw) (by have := nu_lt h1 h7 (isP_PM.mp c_5); omega)) ?_
    exact hret (iw, ww) H locs _ _ _ (Or.inr ⟨c_5, hw, rfl⟩) hP hS dX1_contains_24
  ·
    have c_5 := b01_f c_5
    refine lv_iconst (v := nI (0)) hx hb dX1_contains_8 (by decide) ?_
    exact hret (iv, wv) H locs _ _ _ (Or.inl ⟨c_5, rfl, rfl⟩) hP hS dX1_contains_9
theorem eX1_element : yX1_element.cls = RX1 ∧ yX1_element.cls ≠ "java/lang/invoke/MethodHandle" ∧ yX1_element.cls ≠ "java/lang/invoke/VarHandle" ∧ (parseMethodDescriptor yX1_element.desc).map (fun d => d.parameters.length) = some 1 := by decide +kernel
set_option maxHeartbeats 4000000 in
set_option maxRecDepth 100000 in
theorem kX1_element (h1 : 1 ≤ n) (h7 : n ≤ 7) (hc : ct ≤ 12) (hg : ∀ j, j < ct → PM n (gC gn j)) {k : Int32} : mI (S := (Int32 × (Nat → Int32) × (Nat → Int32))) l yX1_element wsX1_element ({ frames := 4, cells := 0, slots := 0, locals := 100 } : Room) [.ref h, .int (k)] D (gT cI cG cZ) (mW cI cZ h fa ge inn wa (nI (ct)) (nI (n)) (th) (gn) (iv) (wv)) (fun u => mW cI cZ h fa ge inn wa (nI ct) (nI n) u.1 gn u.2.1 u.2.2) (fun r u => FP n ct gn u.2.1 ∧ (((k < 0 ∨ ¬ k < nI (bl u.2.1 (fac n))) ∧ u.1 = 1) ∨ ∃ X, X < bl u.2.1 (fac n) ∧ k = nI X ∧ u.1 = 0 ∧ r = nI (pe n (elS u.2.1 5040 0 X)))) := by
  refine mI_ofW (cc := cX1_element) (maxL := 4) (ret := (some .int)) (by decide) rfl (Or.inl rfl) (Nat.le_of_ble_eq_true rfl) ?_
  intro p e s m args below meth c QQ hx hb hml hown hts hK hP hD hS hret ls hl
  have hl : lv_has ls 4 [(0, .ref h), (1, .int (k))] := hl
  have hown : s.vm.findClass RX1 = some m.cls := hown
  have hin0 : ∀ w ∈ wsX10, w ∈ wsX1_element := fun w h => List.mem_cons_of_mem _ (List.mem_append_right _ h)
  have hl_in : (Cond.fieldLink RX1 16 "PermGroupModel" "in" "[Z").before args s = true := hts _ (by decide +kernel)
  have hl_thrown : (Cond.fieldLink RX1 69 "PermGroupModel" "thrown" "I").before args s = true := hts _ (by decide +kernel)
  generalize inW (mW cI cZ h fa ge inn wa (nI (ct)) (nI (n)) (th) (gn) (iv) (wv)) = A at hD hS hret
  suffices start : ∀ (H : Heap) (locs : List Loc), va_P D vwCl (mW cI cZ h fa ge inn wa (nI (ct)) (nI (n)) (th) (gn) (iv) (wv)) H → va_D A (mW cI cZ h fa ge inn wa (nI (ct)) (nI (n)) (th) (gn) (iv) (wv)) → va_S A s.heap H locs → W p l e ({ frames := 4, cells := 0, slots := 0, locals := 100 } : Room) s m args below meth c H locs 0 0 QQ (F0 m 0 ls []) from start s.heap [] hP hD hS
  clear hP hD hS
  intro H locs hP hD hS
  have hf := fac_le h7
  refine lv_aload_n hx hb dX1_element_0 rfl (lv_at hl 0 rfl) ?_
  refine mv_V (As := []) (rest := []) (b := h) ⟨hx, hb, hml, hown, hts⟩ (kX1_fill h1 h7 hc hg) (cwV 0 hts gX1_element_X1_fill rfl rfl rfl eX1_fill ⟨by decide, by decide⟩) (va_recv hK hP (ci := 1) (q0 := 0) rfl rfl) hK hP hD hS rfl hl.1 rfl (Nat.le_of_ble_eq_true rfl) dX1_element_1 ⟨Nat.zero_le _, Nat.zero_le _⟩ (fun u H locs hw hP hS hk => ?_)
  obtain ⟨iw, ww⟩ := u
  have hP : va_P D vwCl (mW cI cZ h fa ge inn wa (nI (ct)) (nI (n)) (th) (gn) (iw) (ww)) H := hP
  have hD : va_D A (mW cI cZ h fa ge inn wa (nI (ct)) (nI (n)) (th) (gn) (iw) (ww)) := mW_addr hD
  have hw : FP n ct gn iw := hw
  refine lv_aload_n hx hb dX1_element_4 rfl (lv_at hl 0 rfl) ?_
  refine lv_iload_n hx hb dX1_element_5 rfl (lv_at hl 1 rfl) ?_
  refine lv_if_lt (tgt := 21) hx hb dX1_element_6 (by decide) (fun c_6 => ?_) (fun c_6 => ?_)
  ·
    refine lv_iconst (v := nI (1)) hx hb dX1_element_21 (by decide) ?_
    refine lv_goto (tgt := 26) hx hb dX1_element_22 (by decide) ?_
    refine va_put (D := D) (ci := 1) (v := .int (nI (1))) (ty := .int) (C := RX1) (T := TX1) (N := 7) hx hb hts hin0 tyX1 tyX1_ok nmX1 hown hK hP hD hS 0 rfl rfl 6 (by decide) hl_thrown (fun _ h9 => h9) rfl (by decide +kernel) rfl rfl (Nat.le_of_ble_eq_true rfl) dX1_element_26 (fun H locs hP hD hS => ?_)
    have hP : va_P D vwCl (mW cI cZ h fa ge inn wa (nI (ct)) (nI (n)) (nI (1)) (gn) (iw) (ww)) H := hP
    have hD : va_D A (mW cI cZ h fa ge inn wa (nI (ct)) (nI (n)) (nI (1)) (gn) (iw) (ww)) := hD
    refine lv_aload_n hx hb dX1_element_29 rfl (lv_at hl 0 rfl) ?_
    refine va_get (D := D) (ci := 1) (v := .int (nI (1))) (C := RX1) (T := TX1) (N := 7) hx hb hts hin0 hown hK hP 0 rfl rfl 6 (by decide) hl_thrown (fun _ h9 => h9) rfl dX1_element_30 ?_
    refine lv_if_le (tgt := 38) hx hb dX1_element_33 (by decide) (fun c_33 => ?_) (fun c_33 => ?_)
    ·
      have c_33 := (nb_le0 (by omega)).mp c_33
      exact absurd c_33 (by decide)
    ·
      have c_33 : ¬ _ := fun h9 => c_33 ((nb_le0 (by omega)).mpr h9)
      refine lv_iconst (v := nI (0)) hx hb dX1_element_36 (by decide) ?_
      exact hret (nI 1, iw, ww) H locs _ _ _ ⟨hw, Or.inl ⟨by first | exact Or.inl c_6 | exact Or.inr c_18, rfl⟩⟩ hP hS dX1_element_37
  ·
    refine lv_iload_n hx hb dX1_element_9 rfl (lv_at hl 1 rfl) ?_
    refine lv_aload_n hx hb dX1_element_10 rfl (lv_at hl 0 rfl) ?_
    refine lv_aload_n hx hb dX1_element_11 rfl (lv_at hl 0 rfl) ?_
    refine pu_V (As := []) (rest := [.ref h, .int (k), .ref h]) (b := h) ⟨hx, hb, hml, hown, hts⟩ (kX1_all hP h7) (cwV 0 hts gX1_element_X1_all rfl rfl rfl eX1_all ⟨by decide, by decide⟩) (va_recv hK hP (ci := 1) (q0 := 0) rfl rfl) hK rfl hl.1 rfl (Nat.le_of_ble_eq_true rfl) dX1_element_12 ⟨Nat.zero_le _, Nat.zero_le _⟩ ?_
    refine pu_V (As := [.int (nI (fac n))]) (rest := [.int (k), .ref h]) (b := h) ⟨hx, hb, hml, hown, hts⟩ (kX1_below hP (k := fac n) hf) (cwV 1 hts gX1_element_X1_below rfl rfl rfl eX1_below ⟨by decide, by decide⟩) (va_recv hK hP (ci := 1) (q0 := 0) rfl rfl) hK rfl hl.1 rfl (Nat.le_of_ble_eq_true rfl) dX1_element_15 ⟨Nat.zero_le _, Nat.zero_le _⟩ ?_
    refine lv_icmp_lt (tgt := 25) hx hb dX1_element_18 (by decide) (fun c_18 => ?_) (fun c_18 => ?_)
    ·
      obtain ⟨X, hX, rfl⟩ := nb_ix c_6 c_18 (by have := bl_le iw (fac n); omega)
      refine lv_iconst (v := nI (0)) hx hb dX1_element_25 (by decide) ?_
      refine va_put (D := D) (ci := 1) (v := .int (nI (0))) (ty := .int) (C := RX1) (T := TX1) (N := 7) hx hb hts hin0 tyX1 tyX1_ok nmX1 hown hK hP hD hS 0 rfl rfl 6 (by decide) hl_thrown (fun _ h9 => h9) rfl (by decide +kernel) rfl rfl (Nat.le_of_ble_eq_true rfl) dX1_element_26 (fun H locs hP hD hS => ?_)
      have hP : va_P D vwCl (mW cI cZ h fa ge inn wa (nI (ct)) (nI (n)) (nI (0)) (gn) (iw) (ww)) H := hP
      have hD : va_D A (mW cI cZ h fa ge inn wa (nI (ct)) (nI (n)) (nI (0)) (gn) (iw) (ww)) := hD
      refine lv_aload_n hx hb dX1_element_29 rfl (lv_at hl 0 rfl) ?_
      refine va_get (D := D) (ci := 1) (v := .int (nI (0))) (C := RX1) (T := TX1) (N := 7) hx hb hts hin0 hown hK hP 0 rfl rfl 6 (by decide) hl_thrown (fun _ h9 => h9) rfl dX1_element_30 ?_
      refine lv_if_le (tgt := 38) hx hb dX1_element_33 (by decide) (fun c_33 => ?_) (fun c_33 => ?_)
      ·
        have c_33 := (nb_le0 (by omega)).mp c_33
        refine lv_iconst (v := nI (0)) hx hb dX1_element_38 (by decide) ?_
        refine lv_istore_n (lv' := [(2, .int (nI (0))), (0, .ref h), (1, .int (nI (X)))]) hx hb dX1_element_39 rfl hl (by decide) rfl (fun ls hl => ?_)
        refine lv_iload_n hx hb dX1_element_40 rfl (lv_at hl 2 rfl) ?_
        refine lv_istore_n (lv' := [(3, .int (nI (X))), (2, .int (nI (0))), (0, .ref h), (1, .int (nI (X)))]) hx hb dX1_element_41 rfl hl (by decide) rfl (fun ls hl => ?_)
        have loop_42 : ∀ (K m9 l9 : Nat), (m9 + K = 5040) → (elS iw 5040 0 X = elS iw K m9 l9) → (l9 < 2 ^ 31) → ∀ (ls : Array Slot), lv_has ls 4 [(0, .ref h), (2, .int (nI (m9))), (3, .int (nI (l9)))] → W p l e ({ frames := 4, cells := 0, slots := 0, locals := 100 } : Room) s m args below meth c H locs 0 0 QQ (F0 m 42 ls []) := by
          intro K
          induction K with
          | zero =>
            intro m9 l9 hK1 hr hl31 ls hl
            refine lv_iload_n hx hb dX1_element_42 rfl (lv_at hl 1 rfl) ?_
            refine lv_sipush (v := nI (5040)) hx hb dX1_element_43 (by decide) ?_
            refine lv_icmp_ge (tgt := 80) hx hb dX1_element_46 (by decide) (fun c_46 => ?_) (fun c_46 => ?_)
            ·
              have c_46 := (nI_leI (by omega) (by omega)).mp c_46
              refine lv_aload_n hx hb dX1_element_80 rfl (lv_at hl 0 rfl) ?_
              refine lv_iload_n hx hb dX1_element_81 rfl (lv_at hl 1 rfl) ?_
              refine pu_V (As := [.int (nI (m9))]) (rest := []) (b := h) ⟨hx, hb, hml, hown, hts⟩ (kX1_permutation hP h7 (q := m9) (by omega)) (cwV 1 hts gX1_element_X1_permutation rfl rfl rfl eX1_permutation ⟨by decide, by decide⟩) (va_recv hK hP (ci := 1) (q0 := 0) rfl rfl) hK rfl hl.1 rfl (Nat.le_of_ble_eq_true rfl) dX1_element_82 ⟨Nat.zero_le _, Nat.zero_le _⟩ ?_
              exact hret (nI 0, iw, ww) H locs _ _ _ ⟨hw, Or.inr ⟨X, hX, rfl, rfl, congrArg (fun z => nI (pe n z)) (by first | exact hr.symm | exact (hr.trans (elS_h c_55 (by omega))).symm)⟩⟩ hP hS dX1_element_85
            ·
              have c_46 : ¬ _ := fun h9 => c_46 ((nI_leI (by omega) (by omega)).mpr h9)
              exfalso; omega
          | succ K ih_42 =>
            intro m9 l9 hK1 hr hl31 ls hl
            refine lv_iload_n hx hb dX1_element_42 rfl (lv_at hl 1 rfl) ?_
            refine lv_sipush (v := nI (5040)) hx hb dX1_element_43 (by decide) ?_
            refine lv_icmp_ge (tgt := 80) hx hb dX1_element_46 (by decide) (fun c_46 => ?_) (fun c_46 => ?_)
            ·
              have c_46 := (nI_leI (by omega) (by omega)).mp c_46
              exfalso; omega
            ·
              have c_46 : ¬ _ := fun h9 => c_46 ((nI_leI (by omega) (by omega)).mpr h9)
              refine lv_aload_n hx hb dX1_element_49 rfl (lv_at hl 0 rfl) ?_
              refine va_get (D := D) (ci := 1) (v := .ref inn) (C := RX1) (T := TX1) (N := 7) hx hb hts hin0 hown hK hP 0 rfl rfl 4 (by decide) hl_in (fun _ h9 => h9) rfl dX1_element_50 ?_
              refine lv_iload_n hx hb dX1_element_53 rfl (lv_at hl 1 rfl) ?_
              refine va_zald hx hb hK hP 3 2 rfl rfl (vp_in_nI (by omega) (by omega)) dX1_element_54 ?_
              refine pu_tp (nb_clamp (f := iw) (by omega)) ?_
              refine lv_if_eq (tgt := 62) hx hb dX1_element_55 (by decide) (fun c_55 => ?_) (fun c_55 => ?_)
              ·
                refine lv_aload_n hx hb dX1_element_62 rfl (lv_at hl 0 rfl) ?_
                refine va_get (D := D) (ci := 1) (v := .ref inn) (C := RX1) (T := TX1) (N := 7) hx hb hts hin0 hown hK hP 0 rfl rfl 4 (by decide) hl_in (fun _ h9 => h9) rfl dX1_element_63 ?_
                refine lv_iload_n hx hb dX1_element_66 rfl (lv_at hl 1 rfl) ?_
                refine va_zald hx hb hK hP 3 2 rfl rfl (vp_in_nI (by omega) (by omega)) dX1_element_67 ?_
                refine pu_tp (nb_clamp (f := iw) (by omega)) ?_
                refine lv_if_eq (tgt := 74) hx hb dX1_element_68 (by decide) (fun c_68 => ?_) (fun c_68 => ?_)
                ·
                  refine lv_iinc (v := nI (m9 + 1)) (lv' := [(2, .int (nI (m9 + 1))), (0, .ref h), (3, .int (nI (l9)))]) hx hb dX1_element_74 hl (k := 1) rfl (nI_1 _) (by decide) rfl (fun ls hl => ?_)
                  refine lv_goto (tgt := 42) hx hb dX1_element_77 (by decide) ?_
                  exact ih_42 (m9 + 1) l9 (by omega) (hr.trans (elS_n (by first | exact c_55 | exact c_68))) hl31 ls (lv_sub hl [1, 0, 2] rfl)
                ·
                  exact absurd c_55 c_68
              ·
                refine lv_iload_n hx hb dX1_element_58 rfl (lv_at hl 2 rfl) ?_
                refine lv_if_le (tgt := 80) hx hb dX1_element_59 (by decide) (fun c_59 => ?_) (fun c_59 => ?_)
                ·
                  have c_59 := (nb_le0 (by omega)).mp c_59
                  refine lv_aload_n hx hb dX1_element_80 rfl (lv_at hl 0 rfl) ?_
                  refine lv_iload_n hx hb dX1_element_81 rfl (lv_at hl 1 rfl) ?_
                  refine pu_V (As := [.int (nI (m9))]) (rest := []) (b := h) ⟨hx, hb, hml, hown, hts⟩ (kX1_permutation hP h7 (q := m9) (by omega)) (cwV 1 hts gX1_element_X1_permutation rfl rfl rfl eX1_permutation ⟨by decide, by decide⟩) (va_recv hK hP (ci := 1) (q0 := 0) rfl rfl) hK rfl hl.1 rfl (Nat.le_of_ble_eq_true rfl) dX1_element_82 ⟨Nat.zero_le _, Nat.zero_le _⟩ ?_
                  exact hret (nI 0, iw, ww) H locs _ _ _ ⟨hw, Or.inr ⟨X, hX, rfl, rfl, congrArg (fun z => nI (pe n z)) (by first | exact hr.symm | exact (hr.trans (elS_h c_55 (by omega))).symm)⟩⟩ hP hS dX1_element_85
                ·
                  have c_59 : ¬ _ := fun h9 => c_59 ((nb_le0 (by omega)).mpr h9)
                  refine lv_aload_n hx hb dX1_element_62 rfl (lv_at hl 0 rfl) ?_
                  refine va_get (D := D) (ci := 1) (v := .ref inn) (C := RX1) (T := TX1) (N := 7) hx hb hts hin0 hown hK hP 0 rfl rfl 4 (by decide) hl_in (fun _ h9 => h9) rfl dX1_element_63 ?_
                  refine lv_iload_n hx hb dX1_element_66 rfl (lv_at hl 1 rfl) ?_
                  refine va_zald hx hb hK hP 3 2 rfl rfl (vp_in_nI (by omega) (by omega)) dX1_element_67 ?_
                  refine pu_tp (nb_clamp (f := iw) (by omega)) ?_
                  refine lv_if_eq (tgt := 74) hx hb dX1_element_68 (by decide) (fun c_68 => ?_) (fun c_68 => ?_)
                  ·
                    exact absurd c_68 c_55
                  ·
                    refine lv_iinc (v := nI (l9 - 1)) (lv' := [(3, .int (nI (l9 - 1))), (0, .ref h), (2, .int (nI (m9)))]) hx hb dX1_element_71 hl (k := 2) rfl (sb_m1 (by omega)) (by decide) rfl (fun ls hl => ?_)
                    refine lv_iinc (v := nI (m9 + 1)) (lv' := [(2, .int (nI (m9 + 1))), (3, .int (nI (l9 - 1))), (0, .ref h)]) hx hb dX1_element_74 hl (k := 2) rfl (nI_1 _) (by decide) rfl (fun ls hl => ?_)
                    refine lv_goto (tgt := 42) hx hb dX1_element_77 (by decide) ?_
                    exact ih_42 (m9 + 1) (l9 - 1) (by omega) (hr.trans (elS_s (by first | exact c_68) (by omega))) (by omega) ls (lv_sub hl [2, 0, 1] rfl)
        exact loop_42 5040 0 X (by omega) rfl (by have := bl_le iw (fac n); omega) ls (lv_sub hl [2, 1, 0] rfl)
      ·
        have c_33 : ¬ _ := fun h9 => c_33 ((nb_le0 (by omega)).mpr h9)
        exact absurd c_33 (by decide)
    ·
      refine lv_iconst (v := nI (1)) hx hb dX1_element_21 (by decide) ?_
      refine lv_goto (tgt := 26) hx hb dX1_element_22 (by decide) ?_
      refine va_put (D := D) (ci := 1) (v := .int (nI (1))) (ty := .int) (C := RX1) (T := TX1) (N := 7) hx hb hts hin0 tyX1 tyX1_ok nmX1 hown hK hP hD hS 0 rfl rfl 6 (by decide) hl_thrown (fun _ h9 => h9) rfl (by decide +kernel) rfl rfl (Nat.le_of_ble_eq_true rfl) dX1_element_26 (fun H locs hP hD hS => ?_)
      have hP : va_P D vwCl (mW cI cZ h fa ge inn wa (nI (ct)) (nI (n)) (nI (1)) (gn) (iw) (ww)) H := hP
      have hD : va_D A (mW cI cZ h fa ge inn wa (nI (ct)) (nI (n)) (nI (1)) (gn) (iw) (ww)) := hD
      refine lv_aload_n hx hb dX1_element_29 rfl (lv_at hl 0 rfl) ?_
      refine va_get (D := D) (ci := 1) (v := .int (nI (1))) (C := RX1) (T := TX1) (N := 7) hx hb hts hin0 hown hK hP 0 rfl rfl 6 (by decide) hl_thrown (fun _ h9 => h9) rfl dX1_element_30 ?_
      refine lv_if_le (tgt := 38) hx hb dX1_element_33 (by decide) (fun c_33 => ?_) (fun c_33 => ?_)
      ·
        have c_33 := (nb_le0 (by omega)).mp c_33
        exact absurd c_33 (by decide)
      ·
        have c_33 : ¬ _ := fun h9 => c_33 ((nb_le0 (by omega)).mpr h9)
        refine lv_iconst (v := nI (0)) hx hb dX1_element_36 (by decide) ?_
        exact hret (nI 1, iw, ww) H locs _ _ _ ⟨hw, Or.inl ⟨by first | exact Or.inl c_6 | exact Or.inr c_18, rfl⟩⟩ hP hS dX1_element_37
theorem eX1_rank : yX1_rank.cls = RX1 ∧ yX1_rank.cls ≠ "java/lang/invoke/MethodHandle" ∧ yX1_rank.cls ≠ "java/lang/invoke/VarHandle" ∧ (parseMethodDescriptor yX1_rank.desc).map (fun d => d.parameters.length) = some 1 := by decide +kernel
set_option maxHeartbeats 4000000 in
set_option maxRecDepth 100000 in
theorem kX1_rank (h1 : 1 ≤ n) (h7 : n ≤ 7) (hc : ct ≤ 12) (hg : ∀ j, j < ct → PM n (gC gn j)) {P : Nat} (hp : P < 2 ^ 32) : mI (S := (Int32 × (Nat → Int32) × (Nat → Int32))) l yX1_rank wsX1_rank ({ frames := 4, cells := 0, slots := 0, locals := 100 } : Room) [.ref h, .int (nI (P))] D (gT cI cG cZ) (mW cI cZ h fa ge inn wa (nI (ct)) (nI (n)) (th) (gn) (iv) (wv)) (fun u => mW cI cZ h fa ge inn wa (nI ct) (nI n) u.1 gn u.2.1 u.2.2) (fun r u => (isP n P = false ∧ u = (1, iv, wv)) ∨ (isP n P = true ∧ FP n ct gn u.2.1 ∧ ((u.2.1 (nu n P) = 0 ∧ u.1 = 2) ∨ (¬ u.2.1 (nu n P) = 0 ∧ u.1 = 0 ∧ r = nI (bl u.2.1 (nu n P)))))) := by
  refine mI_ofW (cc := cX1_rank) (maxL := 3) (ret := (some .int)) (by decide) rfl (Or.inl rfl) (Nat.le_of_ble_eq_true rfl) ?_
  intro p e s m args below meth c QQ hx hb hml hown hts hK hP hD hS hret ls hl
  have hl : lv_has ls 3 [(0, .ref h), (1, .int (nI (P)))] := hl
  have hown : s.vm.findClass RX1 = some m.cls := hown
  have hin0 : ∀ w ∈ wsX10, w ∈ wsX1_rank := fun w h => List.mem_cons_of_mem _ (List.mem_append_right _ h)
  have hl_in : (Cond.fieldLink RX1 16 "PermGroupModel" "in" "[Z").before args s = true := hts _ (by decide +kernel)
  have hl_thrown : (Cond.fieldLink RX1 69 "PermGroupModel" "thrown" "I").before args s = true := hts _ (by decide +kernel)
  generalize inW (mW cI cZ h fa ge inn wa (nI (ct)) (nI (n)) (th) (gn) (iv) (wv)) = A at hD hS hret
  suffices start : ∀ (H : Heap) (locs : List Loc), va_P D vwCl (mW cI cZ h fa ge inn wa (nI (ct)) (nI (n)) (th) (gn) (iv) (wv)) H → va_D A (mW cI cZ h fa ge inn wa (nI (ct)) (nI (n)) (th) (gn) (iv) (wv)) → va_S A s.heap H locs → W p l e ({ frames := 4, cells := 0, slots := 0, locals := 100 } : Room) s m args below meth c H locs 0 0 QQ (F0 m 0 ls []) from start s.heap [] hP hD hS
  clear hP hD hS
  intro H locs hP hD hS
  have hf := fac_le h7
  refine lv_aload_n hx hb dX1_rank_0 rfl (lv_at hl 0 rfl) ?_
  refine lv_aload_n hx hb dX1_rank_1 rfl (lv_at hl 0 rfl) ?_
  refine lv_iload_n hx hb dX1_rank_2 rfl (lv_at hl 1 rfl) ?_
  refine pu_V (As := [.int (nI (P))]) (rest := [.ref h]) (b := h) ⟨hx, hb, hml, hown, hts⟩ (kX1_isPermutation hP h7 (P := P) hp) (cwV 1 hts gX1_rank_X1_isPermutation rfl rfl rfl eX1_isPermutation ⟨by decide, by decide⟩) (va_recv hK hP (ci := 1) (q0 := 0) rfl rfl) hK rfl hl.1 rfl (Nat.le_of_ble_eq_true rfl) dX1_rank_3 ⟨Nat.zero_le _, Nat.zero_le _⟩ ?_
  refine lv_if_eq (tgt := 13) hx hb dX1_rank_6 (by decide) (fun c_6 => ?_) (fun c_6 => ?_)
  ·
    have c_6 := b01_f c_6
    refine lv_iconst (v := nI (1)) hx hb dX1_rank_13 (by decide) ?_
    refine va_put (D := D) (ci := 1) (v := .int (nI (1))) (ty := .int) (C := RX1) (T := TX1) (N := 7) hx hb hts hin0 tyX1 tyX1_ok nmX1 hown hK hP hD hS 0 rfl rfl 6 (by decide) hl_thrown (fun _ h9 => h9) rfl (by decide +kernel) rfl rfl (Nat.le_of_ble_eq_true rfl) dX1_rank_14 (fun H locs hP hD hS => ?_)
    have hP : va_P D vwCl (mW cI cZ h fa ge inn wa (nI (ct)) (nI (n)) (nI (1)) (gn) (iv) (wv)) H := hP
    have hD : va_D A (mW cI cZ h fa ge inn wa (nI (ct)) (nI (n)) (nI (1)) (gn) (iv) (wv)) := hD
    refine lv_aload_n hx hb dX1_rank_17 rfl (lv_at hl 0 rfl) ?_
    refine va_get (D := D) (ci := 1) (v := .int (nI (1))) (C := RX1) (T := TX1) (N := 7) hx hb hts hin0 hown hK hP 0 rfl rfl 6 (by decide) hl_thrown (fun _ h9 => h9) rfl dX1_rank_18 ?_
    refine lv_if_le (tgt := 26) hx hb dX1_rank_21 (by decide) (fun c_21 => ?_) (fun c_21 => ?_)
    ·
      have c_21 := (nb_le0 (by omega)).mp c_21
      exact absurd c_21 (by decide)
    ·
      have c_21 : ¬ _ := fun h9 => c_21 ((nb_le0 (by omega)).mpr h9)
      refine lv_iconst (v := nI (0)) hx hb dX1_rank_24 (by decide) ?_
      exact hret (nI 1, iv, wv) H locs _ _ _ (Or.inl ⟨c_6, rfl⟩) hP hS dX1_rank_25
  ·
    have c_6 := b01_t c_6
    refine lv_iconst (v := nI (0)) hx hb dX1_rank_9 (by decide) ?_
    refine lv_goto (tgt := 14) hx hb dX1_rank_10 (by decide) ?_
    refine va_put (D := D) (ci := 1) (v := .int (nI (0))) (ty := .int) (C := RX1) (T := TX1) (N := 7) hx hb hts hin0 tyX1 tyX1_ok nmX1 hown hK hP hD hS 0 rfl rfl 6 (by decide) hl_thrown (fun _ h9 => h9) rfl (by decide +kernel) rfl rfl (Nat.le_of_ble_eq_true rfl) dX1_rank_14 (fun H locs hP hD hS => ?_)
    have hP : va_P D vwCl (mW cI cZ h fa ge inn wa (nI (ct)) (nI (n)) (nI (0)) (gn) (iv) (wv)) H := hP
    have hD : va_D A (mW cI cZ h fa ge inn wa (nI (ct)) (nI (n)) (nI (0)) (gn) (iv) (wv)) := hD
    refine lv_aload_n hx hb dX1_rank_17 rfl (lv_at hl 0 rfl) ?_
    refine va_get (D := D) (ci := 1) (v := .int (nI (0))) (C := RX1) (T := TX1) (N := 7) hx hb hts hin0 hown hK hP 0 rfl rfl 6 (by decide) hl_thrown (fun _ h9 => h9) rfl dX1_rank_18 ?_
    refine lv_if_le (tgt := 26) hx hb dX1_rank_21 (by decide) (fun c_21 => ?_) (fun c_21 => ?_)
    ·
      have c_21 := (nb_le0 (by omega)).mp c_21
      refine lv_aload_n hx hb dX1_rank_26 rfl (lv_at hl 0 rfl) ?_
      refine mv_V (As := []) (rest := []) (b := h) ⟨hx, hb, hml, hown, hts⟩ (kX1_fill h1 h7 hc hg) (cwV 0 hts gX1_rank_X1_fill rfl rfl rfl eX1_fill ⟨by decide, by decide⟩) (va_recv hK hP (ci := 1) (q0 := 0) rfl rfl) hK hP hD hS rfl hl.1 rfl (Nat.le_of_ble_eq_true rfl) dX1_rank_27 ⟨Nat.zero_le _, Nat.zero_le _⟩ (fun u H locs hw hP hS hk => ?_)
      obtain ⟨iw, ww⟩ := u
      have hP : va_P D vwCl (mW cI cZ h fa ge inn wa (nI (ct)) (nI (n)) (nI (0)) (gn) (iw) (ww)) H := hP
      have hD : va_D A (mW cI cZ h fa ge inn wa (nI (ct)) (nI (n)) (nI (0)) (gn) (iw) (ww)) := mW_addr hD
      have hw : FP n ct gn iw := hw
      have hnu := nu_lt h1 h7 (isP_PM.mp c_6)
      refine lv_aload_n hx hb dX1_rank_30 rfl (lv_at hl 0 rfl) ?_
      refine lv_iload_n hx hb dX1_rank_31 rfl (lv_at hl 1 rfl) ?_
      refine pu_V (As := [.int (nI (P))]) (rest := []) (b := h) ⟨hx, hb, hml, hown, hts⟩ (kX1_numberOf hP h7 (P := P) (Nat.lt_trans (isP_lt h7 c_6) (by decide))) (cwV 1 hts gX1_rank_X1_numberOf rfl rfl rfl eX1_numberOf ⟨by decide, by decide⟩) (va_recv hK hP (ci := 1) (q0 := 0) rfl rfl) hK rfl hl.1 rfl (Nat.le_of_ble_eq_true rfl) dX1_rank_32 ⟨Nat.zero_le _, Nat.zero_le _⟩ ?_
      refine lv_istore_n (lv' := [(2, .int (nI (nu n P))), (0, .ref h), (1, .int (nI (P)))]) hx hb dX1_rank_35 rfl hl (by decide) rfl (fun ls hl => ?_)
      refine lv_aload_n hx hb dX1_rank_36 rfl (lv_at hl 1 rfl) ?_
      refine lv_aload_n hx hb dX1_rank_37 rfl (lv_at hl 1 rfl) ?_
      refine va_get (D := D) (ci := 1) (v := .ref inn) (C := RX1) (T := TX1) (N := 7) hx hb hts hin0 hown hK hP 0 rfl rfl 4 (by decide) hl_in (fun _ h9 => h9) rfl dX1_rank_38 ?_
      refine lv_iload_n hx hb dX1_rank_41 rfl (lv_at hl 0 rfl) ?_
      refine va_zald hx hb hK hP 3 2 rfl rfl (vp_in_nI (by omega) (by omega)) dX1_rank_42 ?_
      refine pu_tp (nb_clamp (f := iw) (by omega)) ?_
      refine lv_if_eq (tgt := 50) hx hb dX1_rank_43 (by decide) (fun c_43 => ?_) (fun c_43 => ?_)
      ·
        refine lv_iconst (v := nI (2)) hx hb dX1_rank_50 (by decide) ?_
        refine va_put (D := D) (ci := 1) (v := .int (nI (2))) (ty := .int) (C := RX1) (T := TX1) (N := 7) hx hb hts hin0 tyX1 tyX1_ok nmX1 hown hK hP hD hS 0 rfl rfl 6 (by decide) hl_thrown (fun _ h9 => h9) rfl (by decide +kernel) rfl rfl (Nat.le_of_ble_eq_true rfl) dX1_rank_51 (fun H locs hP hD hS => ?_)
        have hP : va_P D vwCl (mW cI cZ h fa ge inn wa (nI (ct)) (nI (n)) (nI (2)) (gn) (iw) (ww)) H := hP
        have hD : va_D A (mW cI cZ h fa ge inn wa (nI (ct)) (nI (n)) (nI (2)) (gn) (iw) (ww)) := hD
        refine lv_aload_n hx hb dX1_rank_54 rfl (lv_at hl 1 rfl) ?_
        refine va_get (D := D) (ci := 1) (v := .int (nI (2))) (C := RX1) (T := TX1) (N := 7) hx hb hts hin0 hown hK hP 0 rfl rfl 6 (by decide) hl_thrown (fun _ h9 => h9) rfl dX1_rank_55 ?_
        refine lv_if_le (tgt := 65) hx hb dX1_rank_58 (by decide) (fun c_58 => ?_) (fun c_58 => ?_)
        ·
          have c_58 := (nb_le0 (by omega)).mp c_58
          exact absurd c_58 (by decide)
        ·
          have c_58 : ¬ _ := fun h9 => c_58 ((nb_le0 (by omega)).mpr h9)
          refine lv_iconst (v := nI (0)) hx hb dX1_rank_61 (by decide) ?_
          refine lv_goto (tgt := 70) hx hb dX1_rank_62 (by decide) ?_
          exact hret (nI 2, iw, ww) H locs _ _ _ (Or.inr ⟨c_6, hw, Or.inl ⟨c_43, rfl⟩⟩) hP hS dX1_rank_70
      ·
        refine lv_iconst (v := nI (0)) hx hb dX1_rank_46 (by decide) ?_
        refine lv_goto (tgt := 51) hx hb dX1_rank_47 (by decide) ?_
        refine va_put (D := D) (ci := 1) (v := .int (nI (0))) (ty := .int) (C := RX1) (T := TX1) (N := 7) hx hb hts hin0 tyX1 tyX1_ok nmX1 hown hK hP hD hS 0 rfl rfl 6 (by decide) hl_thrown (fun _ h9 => h9) rfl (by decide +kernel) rfl rfl (Nat.le_of_ble_eq_true rfl) dX1_rank_51 (fun H locs hP hD hS => ?_)
        have hP : va_P D vwCl (mW cI cZ h fa ge inn wa (nI (ct)) (nI (n)) (nI (0)) (gn) (iw) (ww)) H := hP
        have hD : va_D A (mW cI cZ h fa ge inn wa (nI (ct)) (nI (n)) (nI (0)) (gn) (iw) (ww)) := hD
        refine lv_aload_n hx hb dX1_rank_54 rfl (lv_at hl 1 rfl) ?_
        refine va_get (D := D) (ci := 1) (v := .int (nI (0))) (C := RX1) (T := TX1) (N := 7) hx hb hts hin0 hown hK hP 0 rfl rfl 6 (by decide) hl_thrown (fun _ h9 => h9) rfl dX1_rank_55 ?_
        refine lv_if_le (tgt := 65) hx hb dX1_rank_58 (by decide) (fun c_58 => ?_) (fun c_58 => ?_)
        ·
          have c_58 := (nb_le0 (by omega)).mp c_58
          refine lv_aload_n hx hb dX1_rank_65 rfl (lv_at hl 1 rfl) ?_
          refine lv_iload_n hx hb dX1_rank_66 rfl (lv_at hl 0 rfl) ?_
          refine pu_V (As := [.int (nI (nu n P))]) (rest := []) (b := h) ⟨hx, hb, hml, hown, hts⟩ (kX1_below hP (k := nu n P) (by omega)) (cwV 1 hts gX1_rank_X1_below rfl rfl rfl eX1_below ⟨by decide, by decide⟩) (va_recv hK hP (ci := 1) (q0 := 0) rfl rfl) hK rfl hl.1 rfl (Nat.le_of_ble_eq_true rfl) dX1_rank_67 ⟨Nat.zero_le _, Nat.zero_le _⟩ ?_
          exact hret (nI 0, iw, ww) H locs _ _ _ (Or.inr ⟨c_6, hw, Or.inr ⟨c_43, rfl, rfl⟩⟩) hP hS dX1_rank_70
        ·
          have c_58 : ¬ _ := fun h9 => c_58 ((nb_le0 (by omega)).mpr h9)
          exact absurd c_58 (by decide)
    ·
      have c_21 : ¬ _ := fun h9 => c_21 ((nb_le0 (by omega)).mpr h9)
      exact absurd c_21 (by decide)
theorem eX1_least : yX1_least.cls = RX1 ∧ yX1_least.cls ≠ "java/lang/invoke/MethodHandle" ∧ yX1_least.cls ≠ "java/lang/invoke/VarHandle" ∧ (parseMethodDescriptor yX1_least.desc).map (fun d => d.parameters.length) = some 1 := by decide +kernel
set_option maxHeartbeats 4000000 in
set_option maxRecDepth 100000 in
theorem kX1_least (h1 : 1 ≤ n) (h7 : n ≤ 7) (hc : ct ≤ 12) (hg : ∀ j, j < ct → PM n (gC gn j)) {P : Nat} (hp : P < 2 ^ 32) : mI (S := (Int32 × (Nat → Int32) × (Nat → Int32))) l yX1_least wsX1_least ({ frames := 4, cells := 0, slots := 0, locals := 100 } : Room) [.ref h, .int (nI (P))] D (gT cI cG cZ) (mW cI cZ h fa ge inn wa (nI (ct)) (nI (n)) (th) (gn) (iv) (wv)) (fun u => mW cI cZ h fa ge inn wa (nI ct) (nI n) u.1 gn u.2.1 u.2.2) (fun r u => (isP n P = false ∧ u = (1, iv, wv)) ∨ (isP n P = true ∧ FP n ct gn u.2.1 ∧ u.1 = 0 ∧ r = nI (pe n (leF n u.2.1 P (fac n) 0 5040)))) := by
  refine mI_ofW (cc := cX1_least) (maxL := 6) (ret := (some .int)) (by decide) rfl (Or.inl rfl) (Nat.le_of_ble_eq_true rfl) ?_
  intro p e s m args below meth c QQ hx hb hml hown hts hK hP hD hS hret ls hl
  have hl : lv_has ls 6 [(0, .ref h), (1, .int (nI (P)))] := hl
  have hown : s.vm.findClass RX1 = some m.cls := hown
  have hin0 : ∀ w ∈ wsX10, w ∈ wsX1_least := fun w h => List.mem_cons_of_mem _ (List.mem_append_right _ h)
  have hl_in : (Cond.fieldLink RX1 16 "PermGroupModel" "in" "[Z").before args s = true := hts _ (by decide +kernel)
  have hl_thrown : (Cond.fieldLink RX1 69 "PermGroupModel" "thrown" "I").before args s = true := hts _ (by decide +kernel)
  generalize inW (mW cI cZ h fa ge inn wa (nI (ct)) (nI (n)) (th) (gn) (iv) (wv)) = A at hD hS hret
  suffices start : ∀ (H : Heap) (locs : List Loc), va_P D vwCl (mW cI cZ h fa ge inn wa (nI (ct)) (nI (n)) (th) (gn) (iv) (wv)) H → va_D A (mW cI cZ h fa ge inn wa (nI (ct)) (nI (n)) (th) (gn) (iv) (wv)) → va_S A s.heap H locs → W p l e ({ frames := 4, cells := 0, slots := 0, locals := 100 } : Room) s m args below meth c H locs 0 0 QQ (F0 m 0 ls []) from start s.heap [] hP hD hS
  clear hP hD hS
  intro H locs hP hD hS
  have hf := fac_le h7
  refine lv_aload_n hx hb dX1_least_0 rfl (lv_at hl 0 rfl) ?_
  refine lv_aload_n hx hb dX1_least_1 rfl (lv_at hl 0 rfl) ?_
  refine lv_iload_n hx hb dX1_least_2 rfl (lv_at hl 1 rfl) ?_
  refine pu_V (As := [.int (nI (P))]) (rest := [.ref h]) (b := h) ⟨hx, hb, hml, hown, hts⟩ (kX1_isPermutation hP h7 (P := P) hp) (cwV 1 hts gX1_least_X1_isPermutation rfl rfl rfl eX1_isPermutation ⟨by decide, by decide⟩) (va_recv hK hP (ci := 1) (q0 := 0) rfl rfl) hK rfl hl.1 rfl (Nat.le_of_ble_eq_true rfl) dX1_least_3 ⟨Nat.zero_le _, Nat.zero_le _⟩ ?_
  refine lv_if_eq (tgt := 13) hx hb dX1_least_6 (by decide) (fun c_6 => ?_) (fun c_6 => ?_)
  ·
    have c_6 := b01_f c_6
    refine lv_iconst (v := nI (1)) hx hb dX1_least_13 (by decide) ?_
    refine va_put (D := D) (ci := 1) (v := .int (nI (1))) (ty := .int) (C := RX1) (T := TX1) (N := 7) hx hb hts hin0 tyX1 tyX1_ok nmX1 hown hK hP hD hS 0 rfl rfl 6 (by decide) hl_thrown (fun _ h9 => h9) rfl (by decide +kernel) rfl rfl (Nat.le_of_ble_eq_true rfl) dX1_least_14 (fun H locs hP hD hS => ?_)
    have hP : va_P D vwCl (mW cI cZ h fa ge inn wa (nI (ct)) (nI (n)) (nI (1)) (gn) (iv) (wv)) H := hP
    have hD : va_D A (mW cI cZ h fa ge inn wa (nI (ct)) (nI (n)) (nI (1)) (gn) (iv) (wv)) := hD
    refine lv_aload_n hx hb dX1_least_17 rfl (lv_at hl 0 rfl) ?_
    refine va_get (D := D) (ci := 1) (v := .int (nI (1))) (C := RX1) (T := TX1) (N := 7) hx hb hts hin0 hown hK hP 0 rfl rfl 6 (by decide) hl_thrown (fun _ h9 => h9) rfl dX1_least_18 ?_
    refine lv_if_le (tgt := 26) hx hb dX1_least_21 (by decide) (fun c_21 => ?_) (fun c_21 => ?_)
    ·
      have c_21 := (nb_le0 (by omega)).mp c_21
      exact absurd c_21 (by decide)
    ·
      have c_21 : ¬ _ := fun h9 => c_21 ((nb_le0 (by omega)).mpr h9)
      refine lv_iconst (v := nI (0)) hx hb dX1_least_24 (by decide) ?_
      exact hret (nI 1, iv, wv) H locs _ _ _ (Or.inl ⟨c_6, rfl⟩) hP hS dX1_least_25
  ·
    have c_6 := b01_t c_6
    refine lv_iconst (v := nI (0)) hx hb dX1_least_9 (by decide) ?_
    refine lv_goto (tgt := 14) hx hb dX1_least_10 (by decide) ?_
    refine va_put (D := D) (ci := 1) (v := .int (nI (0))) (ty := .int) (C := RX1) (T := TX1) (N := 7) hx hb hts hin0 tyX1 tyX1_ok nmX1 hown hK hP hD hS 0 rfl rfl 6 (by decide) hl_thrown (fun _ h9 => h9) rfl (by decide +kernel) rfl rfl (Nat.le_of_ble_eq_true rfl) dX1_least_14 (fun H locs hP hD hS => ?_)
    have hP : va_P D vwCl (mW cI cZ h fa ge inn wa (nI (ct)) (nI (n)) (nI (0)) (gn) (iv) (wv)) H := hP
    have hD : va_D A (mW cI cZ h fa ge inn wa (nI (ct)) (nI (n)) (nI (0)) (gn) (iv) (wv)) := hD
    refine lv_aload_n hx hb dX1_least_17 rfl (lv_at hl 0 rfl) ?_
    refine va_get (D := D) (ci := 1) (v := .int (nI (0))) (C := RX1) (T := TX1) (N := 7) hx hb hts hin0 hown hK hP 0 rfl rfl 6 (by decide) hl_thrown (fun _ h9 => h9) rfl dX1_least_18 ?_
    refine lv_if_le (tgt := 26) hx hb dX1_least_21 (by decide) (fun c_21 => ?_) (fun c_21 => ?_)
    ·
      have c_21 := (nb_le0 (by omega)).mp c_21
      refine lv_aload_n hx hb dX1_least_26 rfl (lv_at hl 0 rfl) ?_
      refine mv_V (As := []) (rest := []) (b := h) ⟨hx, hb, hml, hown, hts⟩ (kX1_fill h1 h7 hc hg) (cwV 0 hts gX1_least_X1_fill rfl rfl rfl eX1_fill ⟨by decide, by decide⟩) (va_recv hK hP (ci := 1) (q0 := 0) rfl rfl) hK hP hD hS rfl hl.1 rfl (Nat.le_of_ble_eq_true rfl) dX1_least_27 ⟨Nat.zero_le _, Nat.zero_le _⟩ (fun u H locs hw hP hS hk => ?_)
      obtain ⟨iw, ww⟩ := u
      have hP : va_P D vwCl (mW cI cZ h fa ge inn wa (nI (ct)) (nI (n)) (nI (0)) (gn) (iw) (ww)) H := hP
      have hD : va_D A (mW cI cZ h fa ge inn wa (nI (ct)) (nI (n)) (nI (0)) (gn) (iw) (ww)) := mW_addr hD
      have hw : FP n ct gn iw := hw
      have hPM := isP_PM.mp c_6
      have hp31 : P < 2 ^ 31 := Nat.lt_trans (isP_lt h7 c_6) (by decide)
      refine lv_sipush (v := nI (5040)) hx hb dX1_least_30 (by decide) ?_
      refine lv_istore_n (lv' := [(2, .int (nI (5040))), (0, .ref h), (1, .int (nI (P)))]) hx hb dX1_least_33 rfl hl (by decide) rfl (fun ls hl => ?_)
      refine lv_iconst (v := nI (0)) hx hb dX1_least_34 (by decide) ?_
      refine lv_istore_n (lv' := [(3, .int (nI (0))), (2, .int (nI (5040))), (0, .ref h), (1, .int (nI (P)))]) hx hb dX1_least_35 rfl hl (by decide) rfl (fun ls hl => ?_)
      have loop_36 : ∀ (K k9 be : Nat), (k9 + K = fac n) → (leF n iw P (fac n) 0 5040 = leF n iw P K k9 be) → (be ≤ 5040) → ∀ (ls : Array Slot), lv_has ls 6 [(0, .ref h), (1, .int (nI (P))), (2, .int (nI (be))), (3, .int (nI (k9)))] → W p l e ({ frames := 4, cells := 0, slots := 0, locals := 100 } : Room) s m args below meth c H locs 0 0 QQ (F0 m 36 ls []) := by
        intro K
        induction K with
        | zero =>
          intro k9 be hK1 hr hbe ls hl
          refine lv_iload_n hx hb dX1_least_36 rfl (lv_at hl 3 rfl) ?_
          refine lv_aload_n hx hb dX1_least_37 rfl (lv_at hl 0 rfl) ?_
          refine pu_V (As := []) (rest := [.int (nI (k9))]) (b := h) ⟨hx, hb, hml, hown, hts⟩ (kX1_all hP h7) (cwV 0 hts gX1_least_X1_all rfl rfl rfl eX1_all ⟨by decide, by decide⟩) (va_recv hK hP (ci := 1) (q0 := 0) rfl rfl) hK rfl hl.1 rfl (Nat.le_of_ble_eq_true rfl) dX1_least_38 ⟨Nat.zero_le _, Nat.zero_le _⟩ ?_
          refine lv_icmp_ge (tgt := 91) hx hb dX1_least_41 (by decide) (fun c_41 => ?_) (fun c_41 => ?_)
          ·
            have c_41 := (nI_leI (by omega) (by omega)).mp c_41
            refine lv_aload_n hx hb dX1_least_91 rfl (lv_at hl 0 rfl) ?_
            refine lv_iload_n hx hb dX1_least_92 rfl (lv_at hl 2 rfl) ?_
            refine pu_V (As := [.int (nI (be))]) (rest := []) (b := h) ⟨hx, hb, hml, hown, hts⟩ (kX1_permutation hP h7 (q := be) (by omega)) (cwV 1 hts gX1_least_X1_permutation rfl rfl rfl eX1_permutation ⟨by decide, by decide⟩) (va_recv hK hP (ci := 1) (q0 := 0) rfl rfl) hK rfl hl.1 rfl (Nat.le_of_ble_eq_true rfl) dX1_least_93 ⟨Nat.zero_le _, Nat.zero_le _⟩ ?_
            exact hret (nI 0, iw, ww) H locs _ _ _ (Or.inr ⟨c_6, hw, rfl, congrArg (fun z => nI (pe n z)) hr.symm⟩) hP hS dX1_least_96
          ·
            have c_41 : ¬ _ := fun h9 => c_41 ((nI_leI (by omega) (by omega)).mpr h9)
            exfalso; omega
        | succ K ih_36 =>
          intro k9 be hK1 hr hbe ls hl
          refine lv_iload_n hx hb dX1_least_36 rfl (lv_at hl 3 rfl) ?_
          refine lv_aload_n hx hb dX1_least_37 rfl (lv_at hl 0 rfl) ?_
          refine pu_V (As := []) (rest := [.int (nI (k9))]) (b := h) ⟨hx, hb, hml, hown, hts⟩ (kX1_all hP h7) (cwV 0 hts gX1_least_X1_all rfl rfl rfl eX1_all ⟨by decide, by decide⟩) (va_recv hK hP (ci := 1) (q0 := 0) rfl rfl) hK rfl hl.1 rfl (Nat.le_of_ble_eq_true rfl) dX1_least_38 ⟨Nat.zero_le _, Nat.zero_le _⟩ ?_
          refine lv_icmp_ge (tgt := 91) hx hb dX1_least_41 (by decide) (fun c_41 => ?_) (fun c_41 => ?_)
          ·
            have c_41 := (nI_leI (by omega) (by omega)).mp c_41
            exfalso; omega
          ·
            have c_41 : ¬ _ := fun h9 => c_41 ((nI_leI (by omega) (by omega)).mpr h9)
            refine lv_aload_n hx hb dX1_least_44 rfl (lv_at hl 0 rfl) ?_
            refine va_get (D := D) (ci := 1) (v := .ref inn) (C := RX1) (T := TX1) (N := 7) hx hb hts hin0 hown hK hP 0 rfl rfl 4 (by decide) hl_in (fun _ h9 => h9) rfl dX1_least_45 ?_
            refine lv_iload_n hx hb dX1_least_48 rfl (lv_at hl 3 rfl) ?_
            refine va_zald hx hb hK hP 3 2 rfl rfl (vp_in_nI (by omega) (by omega)) dX1_least_49 ?_
            refine pu_tp (nb_clamp (f := iw) (by omega)) ?_
            refine lv_if_ne (tgt := 56) hx hb dX1_least_50 (by decide) (fun c_50 => ?_) (fun c_50 => ?_)
            ·
              have hnk := nu_lt h1 h7 (PM_tm (pe_PM h1 h7 (show k9 < fac n by omega)) hPM)
              refine lv_aload_n hx hb dX1_least_56 rfl (lv_at hl 0 rfl) ?_
              refine lv_iload_n hx hb dX1_least_57 rfl (lv_at hl 3 rfl) ?_
              refine pu_V (As := [.int (nI (k9))]) (rest := []) (b := h) ⟨hx, hb, hml, hown, hts⟩ (kX1_permutation hP h7 (q := k9) (by omega)) (cwV 1 hts gX1_least_X1_permutation rfl rfl rfl eX1_permutation ⟨by decide, by decide⟩) (va_recv hK hP (ci := 1) (q0 := 0) rfl rfl) hK rfl hl.1 rfl (Nat.le_of_ble_eq_true rfl) dX1_least_58 ⟨Nat.zero_le _, Nat.zero_le _⟩ ?_
              refine lv_istore (lv' := [(4, .int (nI (pe n (k9)))), (0, .ref h), (1, .int (nI (P))), (2, .int (nI (be))), (3, .int (nI (k9)))]) hx hb dX1_least_61 hl (by decide) rfl (fun ls hl => ?_)
              refine lv_aload_n hx hb dX1_least_63 rfl (lv_at hl 1 rfl) ?_
              refine lv_aload_n hx hb dX1_least_64 rfl (lv_at hl 1 rfl) ?_
              refine lv_iload hx hb dX1_least_65 (lv_at hl 0 rfl) ?_
              refine lv_iload_n hx hb dX1_least_67 rfl (lv_at hl 2 rfl) ?_
              refine pu_V (As := [.int (nI (pe n (k9))), .int (nI (P))]) (rest := [.ref h]) (b := h) ⟨hx, hb, hml, hown, hts⟩ (kX1_times hP h7 (P := pe n k9) (Q := P) (Nat.lt_trans (pe_lt h7 _) (by decide)) hp31) (cwV 2 hts gX1_least_X1_times rfl rfl rfl eX1_times ⟨by decide, by decide⟩) (va_recv hK hP (ci := 1) (q0 := 0) rfl rfl) hK rfl hl.1 rfl (Nat.le_of_ble_eq_true rfl) dX1_least_68 ⟨Nat.zero_le _, Nat.zero_le _⟩ ?_
              refine pu_V (As := [.int (nI (tm n (pe n k9) P))]) (rest := []) (b := h) ⟨hx, hb, hml, hown, hts⟩ (kX1_numberOf hP h7 (P := tm n (pe n k9) P) (Nat.lt_trans (tm_lt h7 _ _) (by decide))) (cwV 1 hts gX1_least_X1_numberOf rfl rfl rfl eX1_numberOf ⟨by decide, by decide⟩) (va_recv hK hP (ci := 1) (q0 := 0) rfl rfl) hK rfl hl.1 rfl (Nat.le_of_ble_eq_true rfl) dX1_least_71 ⟨Nat.zero_le _, Nat.zero_le _⟩ ?_
              refine lv_istore (lv' := [(5, .int (nI (nu n (tm n (pe n k9) P)))), (4, .int (nI (pe n (k9)))), (0, .ref h), (1, .int (nI (P))), (2, .int (nI (be))), (3, .int (nI (k9)))]) hx hb dX1_least_74 hl (by decide) rfl (fun ls hl => ?_)
              refine lv_iload hx hb dX1_least_76 (lv_at hl 0 rfl) ?_
              refine lv_iload_n hx hb dX1_least_78 rfl (lv_at hl 4 rfl) ?_
              refine lv_icmp_ge (tgt := 85) hx hb dX1_least_79 (by decide) (fun c_79 => ?_) (fun c_79 => ?_)
              ·
                have c_79 := (nI_leI (by omega) (by omega)).mp c_79
                refine lv_iinc (v := nI (k9 + 1)) (lv' := [(3, .int (nI (k9 + 1))), (5, .int (nI (nu n (tm n (pe n k9) P)))), (4, .int (nI (pe n (k9)))), (0, .ref h), (1, .int (nI (P))), (2, .int (nI (be)))]) hx hb dX1_least_85 hl (k := 5) rfl (nI_1 _) (by decide) rfl (fun ls hl => ?_)
                refine lv_goto (tgt := 36) hx hb dX1_least_88 (by decide) ?_
                exact ih_36 (k9 + 1) be (by omega) (hr.trans (by first | exact leF_n c_50 | exact leF_m c_50 (by omega))) hbe ls (lv_sub hl [3, 4, 5, 0] rfl)
              ·
                have c_79 : ¬ _ := fun h9 => c_79 ((nI_leI (by omega) (by omega)).mpr h9)
                refine lv_iload hx hb dX1_least_82 (lv_at hl 0 rfl) ?_
                refine lv_istore_n (lv' := [(2, .int (nI (nu n (tm n (pe n k9) P)))), (5, .int (nI (nu n (tm n (pe n k9) P)))), (4, .int (nI (pe n (k9)))), (0, .ref h), (1, .int (nI (P))), (3, .int (nI (k9)))]) hx hb dX1_least_84 rfl hl (by decide) rfl (fun ls hl => ?_)
                refine lv_iinc (v := nI (k9 + 1)) (lv' := [(3, .int (nI (k9 + 1))), (2, .int (nI (nu n (tm n (pe n k9) P)))), (5, .int (nI (nu n (tm n (pe n k9) P)))), (4, .int (nI (pe n (k9)))), (0, .ref h), (1, .int (nI (P)))]) hx hb dX1_least_85 hl (k := 5) rfl (nI_1 _) (by decide) rfl (fun ls hl => ?_)
                refine lv_goto (tgt := 36) hx hb dX1_least_88 (by decide) ?_
                exact ih_36 (k9 + 1) (nu n (tm n (pe n k9) P)) (by omega) (hr.trans (leF_y c_50 (by omega))) (by omega) ls (lv_sub hl [4, 5, 1, 0] rfl)
            ·
              refine lv_goto (tgt := 85) hx hb dX1_least_53 (by decide) ?_
              refine lv_iinc (v := nI (k9 + 1)) (lv' := [(3, .int (nI (k9 + 1))), (0, .ref h), (1, .int (nI (P))), (2, .int (nI (be)))]) hx hb dX1_least_85 hl (k := 3) rfl (nI_1 _) (by decide) rfl (fun ls hl => ?_)
              refine lv_goto (tgt := 36) hx hb dX1_least_88 (by decide) ?_
              exact ih_36 (k9 + 1) be (by omega) (hr.trans (by first | exact leF_n c_50 | exact leF_m c_50 (by omega))) hbe ls (lv_sub hl [1, 2, 3, 0] rfl)
      exact loop_36 (fac n) 0 5040 (by omega) rfl (by omega) ls (lv_sub hl [2, 3, 1, 0] rfl)
    ·
      have c_21 : ¬ _ := fun h9 => c_21 ((nb_le0 (by omega)).mpr h9)
      exact absurd c_21 (by decide)
theorem eX1_orbit : yX1_orbit.cls = RX1 ∧ yX1_orbit.cls ≠ "java/lang/invoke/MethodHandle" ∧ yX1_orbit.cls ≠ "java/lang/invoke/VarHandle" ∧ (parseMethodDescriptor yX1_orbit.desc).map (fun d => d.parameters.length) = some 1 := by decide +kernel
set_option maxHeartbeats 4000000 in
set_option maxRecDepth 100000 in
theorem kX1_orbit (h1 : 1 ≤ n) (h7 : n ≤ 7) (hc : ct ≤ 12) (hg : ∀ j, j < ct → PM n (gC gn j)) {x : Int32} : mI (S := ((Nat → Int32) × (Nat → Int32))) l yX1_orbit wsX1_orbit ({ frames := 4, cells := 0, slots := 0, locals := 100 } : Room) [.ref h, .int (x)] D (gT cI cG cZ) (mW cI cZ h fa ge inn wa (nI (ct)) (nI (n)) (th) (gn) (iv) (wv)) (fun u => mW cI cZ h fa ge inn wa (nI ct) (nI n) th gn u.1 u.2) (fun r u => ((x < 0 ∨ ¬ x < nI n) ∧ r = 0 ∧ u = (iv, wv)) ∨ ∃ X, X < n ∧ x = nI X ∧ FP n ct gn u.1 ∧ r = nI (orF n u.1 X (fac n) 0 0)) := by
  refine mI_ofW (cc := cX1_orbit) (maxL := 5) (ret := (some .int)) (by decide) rfl (Or.inl rfl) (Nat.le_of_ble_eq_true rfl) ?_
  intro p e s m args below meth c QQ hx hb hml hown hts hK hP hD hS hret ls hl
  have hl : lv_has ls 5 [(0, .ref h), (1, .int (x))] := hl
  have hown : s.vm.findClass RX1 = some m.cls := hown
  have hin0 : ∀ w ∈ wsX10, w ∈ wsX1_orbit := fun w h => List.mem_cons_of_mem _ (List.mem_append_right _ h)
  have hl_in : (Cond.fieldLink RX1 16 "PermGroupModel" "in" "[Z").before args s = true := hts _ (by decide +kernel)
  have hl_n : (Cond.fieldLink RX1 23 "PermGroupModel" "n" "I").before args s = true := hts _ (by decide +kernel)
  generalize inW (mW cI cZ h fa ge inn wa (nI (ct)) (nI (n)) (th) (gn) (iv) (wv)) = A at hD hS hret
  suffices start : ∀ (H : Heap) (locs : List Loc), va_P D vwCl (mW cI cZ h fa ge inn wa (nI (ct)) (nI (n)) (th) (gn) (iv) (wv)) H → va_D A (mW cI cZ h fa ge inn wa (nI (ct)) (nI (n)) (th) (gn) (iv) (wv)) → va_S A s.heap H locs → W p l e ({ frames := 4, cells := 0, slots := 0, locals := 100 } : Room) s m args below meth c H locs 0 0 QQ (F0 m 0 ls []) from start s.heap [] hP hD hS
  clear hP hD hS
  intro H locs hP hD hS
  have hf := fac_le h7
  refine lv_iload_n hx hb dX1_orbit_0 rfl (lv_at hl 1 rfl) ?_
  refine lv_if_lt (tgt := 12) hx hb dX1_orbit_1 (by decide) (fun c_1 => ?_) (fun c_1 => ?_)
  ·
    refine lv_iconst (v := nI (0)) hx hb dX1_orbit_12 (by decide) ?_
    exact hret (iv, wv) H locs _ _ _ (Or.inl ⟨by first | exact Or.inl c_1 | exact Or.inr c_9, rfl, rfl⟩) hP hS dX1_orbit_13
  ·
    refine lv_iload_n hx hb dX1_orbit_4 rfl (lv_at hl 1 rfl) ?_
    refine lv_aload_n hx hb dX1_orbit_5 rfl (lv_at hl 0 rfl) ?_
    refine va_get (D := D) (ci := 1) (v := .int (nI (n))) (C := RX1) (T := TX1) (N := 7) hx hb hts hin0 hown hK hP 0 rfl rfl 3 (by decide) hl_n (fun _ h9 => h9) rfl dX1_orbit_6 ?_
    refine lv_icmp_lt (tgt := 14) hx hb dX1_orbit_9 (by decide) (fun c_9 => ?_) (fun c_9 => ?_)
    ·
      obtain ⟨X, hX, rfl⟩ := nb_ix c_1 c_9 (by omega)
      refine lv_aload_n hx hb dX1_orbit_14 rfl (lv_at hl 0 rfl) ?_
      refine mv_V (As := []) (rest := []) (b := h) ⟨hx, hb, hml, hown, hts⟩ (kX1_fill h1 h7 hc hg) (cwV 0 hts gX1_orbit_X1_fill rfl rfl rfl eX1_fill ⟨by decide, by decide⟩) (va_recv hK hP (ci := 1) (q0 := 0) rfl rfl) hK hP hD hS rfl hl.1 rfl (Nat.le_of_ble_eq_true rfl) dX1_orbit_15 ⟨Nat.zero_le _, Nat.zero_le _⟩ (fun u H locs hw hP hS hk => ?_)
      obtain ⟨iw, ww⟩ := u
      have hP : va_P D vwCl (mW cI cZ h fa ge inn wa (nI (ct)) (nI (n)) (th) (gn) (iw) (ww)) H := hP
      have hD : va_D A (mW cI cZ h fa ge inn wa (nI (ct)) (nI (n)) (th) (gn) (iw) (ww)) := mW_addr hD
      have hw : FP n ct gn iw := hw
      refine lv_iconst (v := nI (0)) hx hb dX1_orbit_18 (by decide) ?_
      refine lv_istore_n (lv' := [(2, .int (nI (0))), (0, .ref h), (1, .int (nI (X)))]) hx hb dX1_orbit_19 rfl hl (by decide) rfl (fun ls hl => ?_)
      refine lv_iconst (v := nI (0)) hx hb dX1_orbit_20 (by decide) ?_
      refine lv_istore_n (lv' := [(3, .int (nI (0))), (2, .int (nI (0))), (0, .ref h), (1, .int (nI (X)))]) hx hb dX1_orbit_21 rfl hl (by decide) rfl (fun ls hl => ?_)
      have loop_22 : ∀ (K k9 s9 : Nat), (k9 + K = fac n) → (orF n iw X (fac n) 0 0 = orF n iw X K k9 s9) → ∀ (ls : Array Slot), lv_has ls 5 [(0, .ref h), (1, .int (nI (X))), (2, .int (nI (s9))), (3, .int (nI (k9)))] → W p l e ({ frames := 4, cells := 0, slots := 0, locals := 100 } : Room) s m args below meth c H locs 0 0 QQ (F0 m 22 ls []) := by
        intro K
        induction K with
        | zero =>
          intro k9 s9 hK1 hr ls hl
          refine lv_iload_n hx hb dX1_orbit_22 rfl (lv_at hl 3 rfl) ?_
          refine lv_aload_n hx hb dX1_orbit_23 rfl (lv_at hl 0 rfl) ?_
          refine pu_V (As := []) (rest := [.int (nI (k9))]) (b := h) ⟨hx, hb, hml, hown, hts⟩ (kX1_all hP h7) (cwV 0 hts gX1_orbit_X1_all rfl rfl rfl eX1_all ⟨by decide, by decide⟩) (va_recv hK hP (ci := 1) (q0 := 0) rfl rfl) hK rfl hl.1 rfl (Nat.le_of_ble_eq_true rfl) dX1_orbit_24 ⟨Nat.zero_le _, Nat.zero_le _⟩ ?_
          refine lv_icmp_ge (tgt := 66) hx hb dX1_orbit_27 (by decide) (fun c_27 => ?_) (fun c_27 => ?_)
          ·
            have c_27 := (nI_leI (by omega) (by omega)).mp c_27
            refine lv_iload_n hx hb dX1_orbit_66 rfl (lv_at hl 2 rfl) ?_
            exact hret (iw, ww) H locs _ _ _ (Or.inr ⟨X, hX, rfl, hw, congrArg nI hr.symm⟩) hP hS dX1_orbit_67
          ·
            have c_27 : ¬ _ := fun h9 => c_27 ((nI_leI (by omega) (by omega)).mpr h9)
            exfalso; omega
        | succ K ih_22 =>
          intro k9 s9 hK1 hr ls hl
          refine lv_iload_n hx hb dX1_orbit_22 rfl (lv_at hl 3 rfl) ?_
          refine lv_aload_n hx hb dX1_orbit_23 rfl (lv_at hl 0 rfl) ?_
          refine pu_V (As := []) (rest := [.int (nI (k9))]) (b := h) ⟨hx, hb, hml, hown, hts⟩ (kX1_all hP h7) (cwV 0 hts gX1_orbit_X1_all rfl rfl rfl eX1_all ⟨by decide, by decide⟩) (va_recv hK hP (ci := 1) (q0 := 0) rfl rfl) hK rfl hl.1 rfl (Nat.le_of_ble_eq_true rfl) dX1_orbit_24 ⟨Nat.zero_le _, Nat.zero_le _⟩ ?_
          refine lv_icmp_ge (tgt := 66) hx hb dX1_orbit_27 (by decide) (fun c_27 => ?_) (fun c_27 => ?_)
          ·
            have c_27 := (nI_leI (by omega) (by omega)).mp c_27
            exfalso; omega
          ·
            have c_27 : ¬ _ := fun h9 => c_27 ((nI_leI (by omega) (by omega)).mpr h9)
            refine lv_aload_n hx hb dX1_orbit_30 rfl (lv_at hl 0 rfl) ?_
            refine va_get (D := D) (ci := 1) (v := .ref inn) (C := RX1) (T := TX1) (N := 7) hx hb hts hin0 hown hK hP 0 rfl rfl 4 (by decide) hl_in (fun _ h9 => h9) rfl dX1_orbit_31 ?_
            refine lv_iload_n hx hb dX1_orbit_34 rfl (lv_at hl 3 rfl) ?_
            refine va_zald hx hb hK hP 3 2 rfl rfl (vp_in_nI (by omega) (by omega)) dX1_orbit_35 ?_
            refine pu_tp (nb_clamp (f := iw) (by omega)) ?_
            refine lv_if_ne (tgt := 42) hx hb dX1_orbit_36 (by decide) (fun c_36 => ?_) (fun c_36 => ?_)
            ·
              refine lv_aload_n hx hb dX1_orbit_42 rfl (lv_at hl 0 rfl) ?_
              refine lv_iload_n hx hb dX1_orbit_43 rfl (lv_at hl 3 rfl) ?_
              refine pu_V (As := [.int (nI (k9))]) (rest := []) (b := h) ⟨hx, hb, hml, hown, hts⟩ (kX1_permutation hP h7 (q := k9) (by omega)) (cwV 1 hts gX1_orbit_X1_permutation rfl rfl rfl eX1_permutation ⟨by decide, by decide⟩) (va_recv hK hP (ci := 1) (q0 := 0) rfl rfl) hK rfl hl.1 rfl (Nat.le_of_ble_eq_true rfl) dX1_orbit_44 ⟨Nat.zero_le _, Nat.zero_le _⟩ ?_
              refine lv_istore (lv' := [(4, .int (nI (pe n (k9)))), (0, .ref h), (1, .int (nI (X))), (2, .int (nI (s9))), (3, .int (nI (k9)))]) hx hb dX1_orbit_47 hl (by decide) rfl (fun ls hl => ?_)
              refine lv_iload_n hx hb dX1_orbit_49 rfl (lv_at hl 3 rfl) ?_
              refine lv_iconst (v := nI (1)) hx hb dX1_orbit_50 (by decide) ?_
              refine lv_iload hx hb dX1_orbit_51 (lv_at hl 0 rfl) ?_
              refine lv_iload_n hx hb dX1_orbit_53 rfl (lv_at hl 2 rfl) ?_
              refine pu_S (As := [.int (nI (pe n (k9))), .int (nI (X))]) (rest := [.int (nI (1)), .int (nI (s9))]) ⟨hx, hb, hml, hown, hts⟩ (kX1_image (P := pe n k9) (i := X) (Nat.lt_trans (pe_lt h7 _) (by decide)) (by omega)) (va_cwS 2 hts gX1_orbit_X1_image rfl rfl rfl eX1_image ⟨by decide, by decide⟩) hK rfl hl.1 rfl (Nat.le_of_ble_eq_true rfl) dX1_orbit_54 ⟨Nat.zero_le _, Nat.zero_le _⟩ ?_
              refine lv_ishl hx hb dX1_orbit_57 ?_
              refine pu_tp (nb_shl _ (by have := im_le (pe n k9) X; omega)) ?_
              refine lv_ior hx hb dX1_orbit_58 ?_
              refine pu_tp (nb_or _ _) ?_
              refine lv_istore_n (lv' := [(2, .int (nI (s9 ||| (1 * 2 ^ (im (pe n k9) X))))), (4, .int (nI (pe n (k9)))), (0, .ref h), (1, .int (nI (X))), (3, .int (nI (k9)))]) hx hb dX1_orbit_59 rfl hl (by decide) rfl (fun ls hl => ?_)
              refine lv_iinc (v := nI (k9 + 1)) (lv' := [(3, .int (nI (k9 + 1))), (2, .int (nI (s9 ||| (1 * 2 ^ (im (pe n k9) X))))), (4, .int (nI (pe n (k9)))), (0, .ref h), (1, .int (nI (X)))]) hx hb dX1_orbit_60 hl (k := 4) rfl (nI_1 _) (by decide) rfl (fun ls hl => ?_)
              refine lv_goto (tgt := 22) hx hb dX1_orbit_63 (by decide) ?_
              exact ih_22 (k9 + 1) (s9 ||| 1 * 2 ^ (im (pe n k9) X)) (by omega) (hr.trans (orF_y c_36)) ls (lv_sub hl [3, 4, 1, 0] rfl)
            ·
              refine lv_goto (tgt := 60) hx hb dX1_orbit_39 (by decide) ?_
              refine lv_iinc (v := nI (k9 + 1)) (lv' := [(3, .int (nI (k9 + 1))), (0, .ref h), (1, .int (nI (X))), (2, .int (nI (s9)))]) hx hb dX1_orbit_60 hl (k := 3) rfl (nI_1 _) (by decide) rfl (fun ls hl => ?_)
              refine lv_goto (tgt := 22) hx hb dX1_orbit_63 (by decide) ?_
              exact ih_22 (k9 + 1) s9 (by omega) (hr.trans (orF_n c_36)) ls (lv_sub hl [1, 2, 3, 0] rfl)
      exact loop_22 (fac n) 0 0 (by omega) rfl ls (lv_sub hl [2, 3, 1, 0] rfl)
    ·
      refine lv_iconst (v := nI (0)) hx hb dX1_orbit_12 (by decide) ?_
      exact hret (iv, wv) H locs _ _ _ (Or.inl ⟨by first | exact Or.inl c_1 | exact Or.inr c_9, rfl, rfl⟩) hP hS dX1_orbit_13
theorem eX1_fixing : yX1_fixing.cls = RX1 ∧ yX1_fixing.cls ≠ "java/lang/invoke/MethodHandle" ∧ yX1_fixing.cls ≠ "java/lang/invoke/VarHandle" ∧ (parseMethodDescriptor yX1_fixing.desc).map (fun d => d.parameters.length) = some 1 := by decide +kernel
set_option maxHeartbeats 4000000 in
set_option maxRecDepth 100000 in
theorem kX1_fixing (h1 : 1 ≤ n) (h7 : n ≤ 7) (hc : ct ≤ 12) (hg : ∀ j, j < ct → PM n (gC gn j)) {x : Int32} : mI (S := ((Nat → Int32) × (Nat → Int32))) l yX1_fixing wsX1_fixing ({ frames := 4, cells := 0, slots := 0, locals := 100 } : Room) [.ref h, .int (x)] D (gT cI cG cZ) (mW cI cZ h fa ge inn wa (nI (ct)) (nI (n)) (th) (gn) (iv) (wv)) (fun u => mW cI cZ h fa ge inn wa (nI ct) (nI n) th gn u.1 u.2) (fun r u => ((x < 0 ∨ ¬ x ≤ nI n) ∧ r = 0 ∧ u = (iv, wv)) ∨ ∃ X, X ≤ n ∧ x = nI X ∧ FP n ct gn u.1 ∧ r = nI (fiF n u.1 X (fac n) 0 0)) := by
  refine mI_ofW (cc := cX1_fixing) (maxL := 7) (ret := (some .int)) (by decide) rfl (Or.inl rfl) (Nat.le_of_ble_eq_true rfl) ?_
  intro p e s m args below meth c QQ hx hb hml hown hts hK hP hD hS hret ls hl
  have hl : lv_has ls 7 [(0, .ref h), (1, .int (x))] := hl
  have hown : s.vm.findClass RX1 = some m.cls := hown
  have hin0 : ∀ w ∈ wsX10, w ∈ wsX1_fixing := fun w h => List.mem_cons_of_mem _ (List.mem_append_right _ h)
  have hl_in : (Cond.fieldLink RX1 16 "PermGroupModel" "in" "[Z").before args s = true := hts _ (by decide +kernel)
  have hl_n : (Cond.fieldLink RX1 23 "PermGroupModel" "n" "I").before args s = true := hts _ (by decide +kernel)
  generalize inW (mW cI cZ h fa ge inn wa (nI (ct)) (nI (n)) (th) (gn) (iv) (wv)) = A at hD hS hret
  suffices start : ∀ (H : Heap) (locs : List Loc), va_P D vwCl (mW cI cZ h fa ge inn wa (nI (ct)) (nI (n)) (th) (gn) (iv) (wv)) H → va_D A (mW cI cZ h fa ge inn wa (nI (ct)) (nI (n)) (th) (gn) (iv) (wv)) → va_S A s.heap H locs → W p l e ({ frames := 4, cells := 0, slots := 0, locals := 100 } : Room) s m args below meth c H locs 0 0 QQ (F0 m 0 ls []) from start s.heap [] hP hD hS
  clear hP hD hS
  intro H locs hP hD hS
  have hf := fac_le h7
  refine lv_iload_n hx hb dX1_fixing_0 rfl (lv_at hl 1 rfl) ?_
  refine lv_if_lt (tgt := 12) hx hb dX1_fixing_1 (by decide) (fun c_1 => ?_) (fun c_1 => ?_)
  ·
    refine lv_iconst (v := nI (0)) hx hb dX1_fixing_12 (by decide) ?_
    exact hret (iv, wv) H locs _ _ _ (Or.inl ⟨by first | exact Or.inl c_1 | exact Or.inr c_9, rfl, rfl⟩) hP hS dX1_fixing_13
  ·
    refine lv_iload_n hx hb dX1_fixing_4 rfl (lv_at hl 1 rfl) ?_
    refine lv_aload_n hx hb dX1_fixing_5 rfl (lv_at hl 0 rfl) ?_
    refine va_get (D := D) (ci := 1) (v := .int (nI (n))) (C := RX1) (T := TX1) (N := 7) hx hb hts hin0 hown hK hP 0 rfl rfl 3 (by decide) hl_n (fun _ h9 => h9) rfl dX1_fixing_6 ?_
    refine lv_icmp_le (tgt := 14) hx hb dX1_fixing_9 (by decide) (fun c_9 => ?_) (fun c_9 => ?_)
    ·
      obtain ⟨X, hX, rfl⟩ := nb_ixle c_1 c_9 (by omega)
      refine lv_aload_n hx hb dX1_fixing_14 rfl (lv_at hl 0 rfl) ?_
      refine mv_V (As := []) (rest := []) (b := h) ⟨hx, hb, hml, hown, hts⟩ (kX1_fill h1 h7 hc hg) (cwV 0 hts gX1_fixing_X1_fill rfl rfl rfl eX1_fill ⟨by decide, by decide⟩) (va_recv hK hP (ci := 1) (q0 := 0) rfl rfl) hK hP hD hS rfl hl.1 rfl (Nat.le_of_ble_eq_true rfl) dX1_fixing_15 ⟨Nat.zero_le _, Nat.zero_le _⟩ (fun u H locs hw hP hS hk => ?_)
      obtain ⟨iw, ww⟩ := u
      have hP : va_P D vwCl (mW cI cZ h fa ge inn wa (nI (ct)) (nI (n)) (th) (gn) (iw) (ww)) H := hP
      have hD : va_D A (mW cI cZ h fa ge inn wa (nI (ct)) (nI (n)) (th) (gn) (iw) (ww)) := mW_addr hD
      have hw : FP n ct gn iw := hw
      refine lv_iconst (v := nI (0)) hx hb dX1_fixing_18 (by decide) ?_
      refine lv_istore_n (lv' := [(2, .int (nI (0))), (0, .ref h), (1, .int (nI (X)))]) hx hb dX1_fixing_19 rfl hl (by decide) rfl (fun ls hl => ?_)
      refine lv_iconst (v := nI (0)) hx hb dX1_fixing_20 (by decide) ?_
      refine lv_istore_n (lv' := [(3, .int (nI (0))), (2, .int (nI (0))), (0, .ref h), (1, .int (nI (X)))]) hx hb dX1_fixing_21 rfl hl (by decide) rfl (fun ls hl => ?_)
      have loop_22 : ∀ (K k9 s9 : Nat), (k9 + K = fac n) → (fiF n iw X (fac n) 0 0 = fiF n iw X K k9 s9) → ∀ (ls : Array Slot), lv_has ls 7 [(0, .ref h), (1, .int (nI (X))), (2, .int (nI (s9))), (3, .int (nI (k9)))] → W p l e ({ frames := 4, cells := 0, slots := 0, locals := 100 } : Room) s m args below meth c H locs 0 0 QQ (F0 m 22 ls []) := by
        intro K
        induction K with
        | zero =>
          intro k9 s9 hK1 hr ls hl
          refine lv_iload_n hx hb dX1_fixing_22 rfl (lv_at hl 3 rfl) ?_
          refine lv_aload_n hx hb dX1_fixing_23 rfl (lv_at hl 0 rfl) ?_
          refine pu_V (As := []) (rest := [.int (nI (k9))]) (b := h) ⟨hx, hb, hml, hown, hts⟩ (kX1_all hP h7) (cwV 0 hts gX1_fixing_X1_all rfl rfl rfl eX1_all ⟨by decide, by decide⟩) (va_recv hK hP (ci := 1) (q0 := 0) rfl rfl) hK rfl hl.1 rfl (Nat.le_of_ble_eq_true rfl) dX1_fixing_24 ⟨Nat.zero_le _, Nat.zero_le _⟩ ?_
          refine lv_icmp_ge (tgt := 96) hx hb dX1_fixing_27 (by decide) (fun c_27 => ?_) (fun c_27 => ?_)
          ·
            have c_27 := (nI_leI (by omega) (by omega)).mp c_27
            refine lv_iload_n hx hb dX1_fixing_96 rfl (lv_at hl 2 rfl) ?_
            exact hret (iw, ww) H locs _ _ _ (Or.inr ⟨X, hX, rfl, hw, congrArg nI hr.symm⟩) hP hS dX1_fixing_97
          ·
            have c_27 : ¬ _ := fun h9 => c_27 ((nI_leI (by omega) (by omega)).mpr h9)
            exfalso; omega
        | succ K ih_22 =>
          intro k9 s9 hK1 hr ls hl
          refine lv_iload_n hx hb dX1_fixing_22 rfl (lv_at hl 3 rfl) ?_
          refine lv_aload_n hx hb dX1_fixing_23 rfl (lv_at hl 0 rfl) ?_
          refine pu_V (As := []) (rest := [.int (nI (k9))]) (b := h) ⟨hx, hb, hml, hown, hts⟩ (kX1_all hP h7) (cwV 0 hts gX1_fixing_X1_all rfl rfl rfl eX1_all ⟨by decide, by decide⟩) (va_recv hK hP (ci := 1) (q0 := 0) rfl rfl) hK rfl hl.1 rfl (Nat.le_of_ble_eq_true rfl) dX1_fixing_24 ⟨Nat.zero_le _, Nat.zero_le _⟩ ?_
          refine lv_icmp_ge (tgt := 96) hx hb dX1_fixing_27 (by decide) (fun c_27 => ?_) (fun c_27 => ?_)
          ·
            have c_27 := (nI_leI (by omega) (by omega)).mp c_27
            exfalso; omega
          ·
            have c_27 : ¬ _ := fun h9 => c_27 ((nI_leI (by omega) (by omega)).mpr h9)
            refine lv_aload_n hx hb dX1_fixing_30 rfl (lv_at hl 0 rfl) ?_
            refine va_get (D := D) (ci := 1) (v := .ref inn) (C := RX1) (T := TX1) (N := 7) hx hb hts hin0 hown hK hP 0 rfl rfl 4 (by decide) hl_in (fun _ h9 => h9) rfl dX1_fixing_31 ?_
            refine lv_iload_n hx hb dX1_fixing_34 rfl (lv_at hl 3 rfl) ?_
            refine va_zald hx hb hK hP 3 2 rfl rfl (vp_in_nI (by omega) (by omega)) dX1_fixing_35 ?_
            refine pu_tp (nb_clamp (f := iw) (by omega)) ?_
            refine lv_if_ne (tgt := 42) hx hb dX1_fixing_36 (by decide) (fun c_36 => ?_) (fun c_36 => ?_)
            ·
              refine lv_aload_n hx hb dX1_fixing_42 rfl (lv_at hl 0 rfl) ?_
              refine lv_iload_n hx hb dX1_fixing_43 rfl (lv_at hl 3 rfl) ?_
              refine pu_V (As := [.int (nI (k9))]) (rest := []) (b := h) ⟨hx, hb, hml, hown, hts⟩ (kX1_permutation hP h7 (q := k9) (by omega)) (cwV 1 hts gX1_fixing_X1_permutation rfl rfl rfl eX1_permutation ⟨by decide, by decide⟩) (va_recv hK hP (ci := 1) (q0 := 0) rfl rfl) hK rfl hl.1 rfl (Nat.le_of_ble_eq_true rfl) dX1_fixing_44 ⟨Nat.zero_le _, Nat.zero_le _⟩ ?_
              refine lv_istore (lv' := [(4, .int (nI (pe n (k9)))), (0, .ref h), (1, .int (nI (X))), (2, .int (nI (s9))), (3, .int (nI (k9)))]) hx hb dX1_fixing_47 hl (by decide) rfl (fun ls hl => ?_)
              refine lv_iconst (v := nI (1)) hx hb dX1_fixing_49 (by decide) ?_
              refine lv_istore (lv' := [(5, .int (nI (1))), (4, .int (nI (pe n (k9)))), (0, .ref h), (1, .int (nI (X))), (2, .int (nI (s9))), (3, .int (nI (k9)))]) hx hb dX1_fixing_50 hl (by decide) rfl (fun ls hl => ?_)
              refine lv_iconst (v := nI (0)) hx hb dX1_fixing_52 (by decide) ?_
              refine lv_istore (lv' := [(6, .int (nI (0))), (5, .int (nI (1))), (4, .int (nI (pe n (k9)))), (0, .ref h), (1, .int (nI (X))), (2, .int (nI (s9))), (3, .int (nI (k9)))]) hx hb dX1_fixing_53 hl (by decide) rfl (fun ls hl => ?_)
              have loop_55 : ∀ (J i : Nat) (b9 : Bool), (i + J = X) → (fiI (pe n k9) X 0 true = fiI (pe n k9) J i b9) → ∀ (ls : Array Slot), lv_has ls 7 [(0, .ref h), (1, .int (nI (X))), (2, .int (nI (s9))), (3, .int (nI (k9))), (4, .int (nI (pe n (k9)))), (5, .int (b01 (b9))), (6, .int (nI (i)))] → W p l e ({ frames := 4, cells := 0, slots := 0, locals := 100 } : Room) s m args below meth c H locs 0 0 QQ (F0 m 55 ls []) := by
                intro J
                induction J with
                | zero =>
                  intro i b9 hJ1 hr2 ls hl
                  refine lv_iload hx hb dX1_fixing_55 (lv_at hl 6 rfl) ?_
                  refine lv_iload_n hx hb dX1_fixing_57 rfl (lv_at hl 1 rfl) ?_
                  refine lv_icmp_ge (tgt := 82) hx hb dX1_fixing_58 (by decide) (fun c_58 => ?_) (fun c_58 => ?_)
                  ·
                    have c_58 := (nI_leI (by omega) (by omega)).mp c_58
                    refine lv_iload hx hb dX1_fixing_82 (lv_at hl 5 rfl) ?_
                    refine lv_if_eq (tgt := 90) hx hb dX1_fixing_84 (by decide) (fun c_84 => ?_) (fun c_84 => ?_)
                    ·
                      have c_84 := b01_f c_84
                      refine lv_iinc (v := nI (k9 + 1)) (lv' := [(3, .int (nI (k9 + 1))), (0, .ref h), (1, .int (nI (X))), (2, .int (nI (s9))), (4, .int (nI (pe n (k9)))), (5, .int (b01 (b9))), (6, .int (nI (i)))]) hx hb dX1_fixing_90 hl (k := 3) rfl (nI_1 _) (by decide) rfl (fun ls hl => ?_)
                      refine lv_goto (tgt := 22) hx hb dX1_fixing_93 (by decide) ?_
                      exact ih_22 (k9 + 1) s9 (by omega) (hr.trans (by first | exact fiF_n c_36 | exact fiF_m c_36 (hr2.trans c_84))) ls (lv_sub hl [1, 2, 3, 0] rfl)
                    ·
                      have c_84 := b01_t c_84
                      refine lv_iinc (v := nI (s9 + 1)) (lv' := [(2, .int (nI (s9 + 1))), (0, .ref h), (1, .int (nI (X))), (3, .int (nI (k9))), (4, .int (nI (pe n (k9)))), (5, .int (b01 (b9))), (6, .int (nI (i)))]) hx hb dX1_fixing_87 hl (k := 2) rfl (nI_1 _) (by decide) rfl (fun ls hl => ?_)
                      refine lv_iinc (v := nI (k9 + 1)) (lv' := [(3, .int (nI (k9 + 1))), (2, .int (nI (s9 + 1))), (0, .ref h), (1, .int (nI (X))), (4, .int (nI (pe n (k9)))), (5, .int (b01 (b9))), (6, .int (nI (i)))]) hx hb dX1_fixing_90 hl (k := 3) rfl (nI_1 _) (by decide) rfl (fun ls hl => ?_)
                      refine lv_goto (tgt := 22) hx hb dX1_fixing_93 (by decide) ?_
                      exact ih_22 (k9 + 1) (s9 + 1) (by omega) (hr.trans (fiF_y c_36 (hr2.trans c_84))) ls (lv_sub hl [2, 3, 1, 0] rfl)
                  ·
                    have c_58 : ¬ _ := fun h9 => c_58 ((nI_leI (by omega) (by omega)).mpr h9)
                    exfalso; omega
                | succ J ih_55 =>
                  intro i b9 hJ1 hr2 ls hl
                  refine lv_iload hx hb dX1_fixing_55 (lv_at hl 6 rfl) ?_
                  refine lv_iload_n hx hb dX1_fixing_57 rfl (lv_at hl 1 rfl) ?_
                  refine lv_icmp_ge (tgt := 82) hx hb dX1_fixing_58 (by decide) (fun c_58 => ?_) (fun c_58 => ?_)
                  ·
                    have c_58 := (nI_leI (by omega) (by omega)).mp c_58
                    exfalso; omega
                  ·
                    have c_58 : ¬ _ := fun h9 => c_58 ((nI_leI (by omega) (by omega)).mpr h9)
                    refine lv_iload hx hb dX1_fixing_61 (lv_at hl 4 rfl) ?_
                    refine lv_iload hx hb dX1_fixing_63 (lv_at hl 6 rfl) ?_
                    refine pu_S (As := [.int (nI (pe n (k9))), .int (nI (i))]) (rest := []) ⟨hx, hb, hml, hown, hts⟩ (kX1_image (P := pe n k9) (i := i) (Nat.lt_trans (pe_lt h7 _) (by decide)) (by omega)) (va_cwS 2 hts gX1_fixing_X1_image rfl rfl rfl eX1_image ⟨by decide, by decide⟩) hK rfl hl.1 rfl (Nat.le_of_ble_eq_true rfl) dX1_fixing_65 ⟨Nat.zero_le _, Nat.zero_le _⟩ ?_
                    refine lv_iload hx hb dX1_fixing_68 (lv_at hl 6 rfl) ?_
                    refine lv_icmp_eq (tgt := 76) hx hb dX1_fixing_70 (by decide) (fun c_70 => ?_) (fun c_70 => ?_)
                    ·
                      have c_70 := (nb_eqI (Nat.lt_trans (im_lt _ _) (by decide)) (by omega)).mp c_70
                      refine lv_iinc (v := nI (i + 1)) (lv' := [(6, .int (nI (i + 1))), (0, .ref h), (1, .int (nI (X))), (2, .int (nI (s9))), (3, .int (nI (k9))), (4, .int (nI (pe n (k9)))), (5, .int (b01 (b9)))]) hx hb dX1_fixing_76 hl (k := 6) rfl (nI_1 _) (by decide) rfl (fun ls hl => ?_)
                      refine lv_goto (tgt := 55) hx hb dX1_fixing_79 (by decide) ?_
                      exact ih_55 (i + 1) b9 (by omega) (hr2.trans (fiI_t c_70)) ls (lv_sub hl [1, 2, 3, 4, 5, 6, 0] rfl)
                    ·
                      have c_70 : ¬ _ := fun h9 => c_70 ((nb_eqI (Nat.lt_trans (im_lt _ _) (by decide)) (by omega)).mpr h9)
                      refine lv_iconst (v := nI (0)) hx hb dX1_fixing_73 (by decide) ?_
                      refine lv_istore (lv' := [(5, .int (nI (0))), (0, .ref h), (1, .int (nI (X))), (2, .int (nI (s9))), (3, .int (nI (k9))), (4, .int (nI (pe n (k9)))), (6, .int (nI (i)))]) hx hb dX1_fixing_74 hl (by decide) rfl (fun ls hl => ?_)
                      refine lv_iinc (v := nI (i + 1)) (lv' := [(6, .int (nI (i + 1))), (5, .int (nI (0))), (0, .ref h), (1, .int (nI (X))), (2, .int (nI (s9))), (3, .int (nI (k9))), (4, .int (nI (pe n (k9))))]) hx hb dX1_fixing_76 hl (k := 6) rfl (nI_1 _) (by decide) rfl (fun ls hl => ?_)
                      refine lv_goto (tgt := 55) hx hb dX1_fixing_79 (by decide) ?_
                      exact ih_55 (i + 1) false (by omega) (hr2.trans (fiI_f c_70)) ls (lv_sub hl [2, 3, 4, 5, 6, 1, 0] rfl)
              exact loop_55 X 0 true (by omega) rfl ls (lv_sub hl [3, 4, 5, 6, 2, 1, 0] rfl)
            ·
              refine lv_goto (tgt := 90) hx hb dX1_fixing_39 (by decide) ?_
              refine lv_iinc (v := nI (k9 + 1)) (lv' := [(3, .int (nI (k9 + 1))), (0, .ref h), (1, .int (nI (X))), (2, .int (nI (s9)))]) hx hb dX1_fixing_90 hl (k := 3) rfl (nI_1 _) (by decide) rfl (fun ls hl => ?_)
              refine lv_goto (tgt := 22) hx hb dX1_fixing_93 (by decide) ?_
              exact ih_22 (k9 + 1) s9 (by omega) (hr.trans (by first | exact fiF_n c_36 | exact fiF_m c_36 (hr2.trans c_84))) ls (lv_sub hl [1, 2, 3, 0] rfl)
      exact loop_22 (fac n) 0 0 (by omega) rfl ls (lv_sub hl [2, 3, 1, 0] rfl)
    ·
      refine lv_iconst (v := nI (0)) hx hb dX1_fixing_12 (by decide) ?_
      exact hret (iv, wv) H locs _ _ _ (Or.inl ⟨by first | exact Or.inl c_1 | exact Or.inr c_9, rfl, rfl⟩) hP hS dX1_fixing_13
theorem eX1_even : yX1_even.cls = RX1 ∧ yX1_even.cls ≠ "java/lang/invoke/MethodHandle" ∧ yX1_even.cls ≠ "java/lang/invoke/VarHandle" ∧ (parseMethodDescriptor yX1_even.desc).map (fun d => d.parameters.length) = some 0 := by decide +kernel
set_option maxHeartbeats 4000000 in
set_option maxRecDepth 100000 in
theorem kX1_even (h1 : 1 ≤ n) (h7 : n ≤ 7) (hc : ct ≤ 12) (hg : ∀ j, j < ct → PM n (gC gn j)) : mI (S := ((Nat → Int32) × (Nat → Int32))) l yX1_even wsX1_even ({ frames := 4, cells := 0, slots := 0, locals := 100 } : Room) [.ref h] D (gT cI cG cZ) (mW cI cZ h fa ge inn wa (nI (ct)) (nI (n)) (th) (gn) (iv) (wv)) (fun u => mW cI cZ h fa ge inn wa (nI ct) (nI n) th gn u.1 u.2) (fun r u => FP n ct gn u.1 ∧ r = nI (erF n u.1 (fac n) 0 0)) := by
  refine mI_ofW (cc := cX1_even) (maxL := 7) (ret := (some .int)) (by decide) rfl (Or.inl rfl) (Nat.le_of_ble_eq_true rfl) ?_
  intro p e s m args below meth c QQ hx hb hml hown hts hK hP hD hS hret ls hl
  have hl : lv_has ls 7 [(0, .ref h)] := hl
  have hown : s.vm.findClass RX1 = some m.cls := hown
  have hin0 : ∀ w ∈ wsX10, w ∈ wsX1_even := fun w h => List.mem_cons_of_mem _ (List.mem_append_right _ h)
  have hl_in : (Cond.fieldLink RX1 16 "PermGroupModel" "in" "[Z").before args s = true := hts _ (by decide +kernel)
  have hl_n : (Cond.fieldLink RX1 23 "PermGroupModel" "n" "I").before args s = true := hts _ (by decide +kernel)
  generalize inW (mW cI cZ h fa ge inn wa (nI (ct)) (nI (n)) (th) (gn) (iv) (wv)) = A at hD hS hret
  suffices start : ∀ (H : Heap) (locs : List Loc), va_P D vwCl (mW cI cZ h fa ge inn wa (nI (ct)) (nI (n)) (th) (gn) (iv) (wv)) H → va_D A (mW cI cZ h fa ge inn wa (nI (ct)) (nI (n)) (th) (gn) (iv) (wv)) → va_S A s.heap H locs → W p l e ({ frames := 4, cells := 0, slots := 0, locals := 100 } : Room) s m args below meth c H locs 0 0 QQ (F0 m 0 ls []) from start s.heap [] hP hD hS
  clear hP hD hS
  intro H locs hP hD hS
  have hf := fac_le h7
  refine lv_aload_n hx hb dX1_even_0 rfl (lv_at hl 0 rfl) ?_
  refine mv_V (As := []) (rest := []) (b := h) ⟨hx, hb, hml, hown, hts⟩ (kX1_fill h1 h7 hc hg) (cwV 0 hts gX1_even_X1_fill rfl rfl rfl eX1_fill ⟨by decide, by decide⟩) (va_recv hK hP (ci := 1) (q0 := 0) rfl rfl) hK hP hD hS rfl hl.1 rfl (Nat.le_of_ble_eq_true rfl) dX1_even_1 ⟨Nat.zero_le _, Nat.zero_le _⟩ (fun u H locs hw hP hS hk => ?_)
  obtain ⟨iw, ww⟩ := u
  have hP : va_P D vwCl (mW cI cZ h fa ge inn wa (nI (ct)) (nI (n)) (th) (gn) (iw) (ww)) H := hP
  have hD : va_D A (mW cI cZ h fa ge inn wa (nI (ct)) (nI (n)) (th) (gn) (iw) (ww)) := mW_addr hD
  have hw : FP n ct gn iw := hw
  refine lv_iconst (v := nI (0)) hx hb dX1_even_4 (by decide) ?_
  refine lv_istore_n (lv' := [(1, .int (nI (0))), (0, .ref h)]) hx hb dX1_even_5 rfl hl (by decide) rfl (fun ls hl => ?_)
  refine lv_iconst (v := nI (0)) hx hb dX1_even_6 (by decide) ?_
  refine lv_istore_n (lv' := [(2, .int (nI (0))), (1, .int (nI (0))), (0, .ref h)]) hx hb dX1_even_7 rfl hl (by decide) rfl (fun ls hl => ?_)
  have loop_8 : ∀ (K k9 s9 : Nat), (k9 + K = fac n) → (erF n iw (fac n) 0 0 = erF n iw K k9 s9) → ∀ (ls : Array Slot), lv_has ls 7 [(0, .ref h), (1, .int (nI (s9))), (2, .int (nI (k9)))] → W p l e ({ frames := 4, cells := 0, slots := 0, locals := 100 } : Room) s m args below meth c H locs 0 0 QQ (F0 m 8 ls []) := by
    intro K
    induction K with
    | zero =>
      intro k9 s9 hK1 hr ls hl
      refine lv_iload_n hx hb dX1_even_8 rfl (lv_at hl 2 rfl) ?_
      refine lv_aload_n hx hb dX1_even_9 rfl (lv_at hl 0 rfl) ?_
      refine pu_V (As := []) (rest := [.int (nI (k9))]) (b := h) ⟨hx, hb, hml, hown, hts⟩ (kX1_all hP h7) (cwV 0 hts gX1_even_X1_all rfl rfl rfl eX1_all ⟨by decide, by decide⟩) (va_recv hK hP (ci := 1) (q0 := 0) rfl rfl) hK rfl hl.1 rfl (Nat.le_of_ble_eq_true rfl) dX1_even_10 ⟨Nat.zero_le _, Nat.zero_le _⟩ ?_
      refine lv_icmp_ge (tgt := 110) hx hb dX1_even_13 (by decide) (fun c_13 => ?_) (fun c_13 => ?_)
      ·
        have c_13 := (nI_leI (by omega) (by omega)).mp c_13
        refine lv_iload_n hx hb dX1_even_110 rfl (lv_at hl 1 rfl) ?_
        exact hret (iw, ww) H locs _ _ _ ⟨hw, congrArg nI hr.symm⟩ hP hS dX1_even_111
      ·
        have c_13 : ¬ _ := fun h9 => c_13 ((nI_leI (by omega) (by omega)).mpr h9)
        exfalso; omega
    | succ K ih_8 =>
      intro k9 s9 hK1 hr ls hl
      refine lv_iload_n hx hb dX1_even_8 rfl (lv_at hl 2 rfl) ?_
      refine lv_aload_n hx hb dX1_even_9 rfl (lv_at hl 0 rfl) ?_
      refine pu_V (As := []) (rest := [.int (nI (k9))]) (b := h) ⟨hx, hb, hml, hown, hts⟩ (kX1_all hP h7) (cwV 0 hts gX1_even_X1_all rfl rfl rfl eX1_all ⟨by decide, by decide⟩) (va_recv hK hP (ci := 1) (q0 := 0) rfl rfl) hK rfl hl.1 rfl (Nat.le_of_ble_eq_true rfl) dX1_even_10 ⟨Nat.zero_le _, Nat.zero_le _⟩ ?_
      refine lv_icmp_ge (tgt := 110) hx hb dX1_even_13 (by decide) (fun c_13 => ?_) (fun c_13 => ?_)
      ·
        have c_13 := (nI_leI (by omega) (by omega)).mp c_13
        exfalso; omega
      ·
        have c_13 : ¬ _ := fun h9 => c_13 ((nI_leI (by omega) (by omega)).mpr h9)
        refine lv_aload_n hx hb dX1_even_16 rfl (lv_at hl 0 rfl) ?_
        refine va_get (D := D) (ci := 1) (v := .ref inn) (C := RX1) (T := TX1) (N := 7) hx hb hts hin0 hown hK hP 0 rfl rfl 4 (by decide) hl_in (fun _ h9 => h9) rfl dX1_even_17 ?_
        refine lv_iload_n hx hb dX1_even_20 rfl (lv_at hl 2 rfl) ?_
        refine va_zald hx hb hK hP 3 2 rfl rfl (vp_in_nI (by omega) (by omega)) dX1_even_21 ?_
        refine pu_tp (nb_clamp (f := iw) (by omega)) ?_
        refine lv_if_ne (tgt := 28) hx hb dX1_even_22 (by decide) (fun c_22 => ?_) (fun c_22 => ?_)
        ·
          refine lv_aload_n hx hb dX1_even_28 rfl (lv_at hl 0 rfl) ?_
          refine lv_iload_n hx hb dX1_even_29 rfl (lv_at hl 2 rfl) ?_
          refine pu_V (As := [.int (nI (k9))]) (rest := []) (b := h) ⟨hx, hb, hml, hown, hts⟩ (kX1_permutation hP h7 (q := k9) (by omega)) (cwV 1 hts gX1_even_X1_permutation rfl rfl rfl eX1_permutation ⟨by decide, by decide⟩) (va_recv hK hP (ci := 1) (q0 := 0) rfl rfl) hK rfl hl.1 rfl (Nat.le_of_ble_eq_true rfl) dX1_even_30 ⟨Nat.zero_le _, Nat.zero_le _⟩ ?_
          refine lv_istore_n (lv' := [(3, .int (nI (pe n (k9)))), (0, .ref h), (1, .int (nI (s9))), (2, .int (nI (k9)))]) hx hb dX1_even_33 rfl hl (by decide) rfl (fun ls hl => ?_)
          refine lv_iconst (v := nI (0)) hx hb dX1_even_34 (by decide) ?_
          refine lv_istore (lv' := [(4, .int (nI (0))), (3, .int (nI (pe n (k9)))), (0, .ref h), (1, .int (nI (s9))), (2, .int (nI (k9)))]) hx hb dX1_even_35 hl (by decide) rfl (fun ls hl => ?_)
          refine lv_iconst (v := nI (0)) hx hb dX1_even_37 (by decide) ?_
          refine lv_istore (lv' := [(5, .int (nI (0))), (4, .int (nI (0))), (3, .int (nI (pe n (k9)))), (0, .ref h), (1, .int (nI (s9))), (2, .int (nI (k9)))]) hx hb dX1_even_38 hl (by decide) rfl (fun ls hl => ?_)
          have loop_40 : ∀ (I9 i a9 : Nat), (i + I9 = n) → (erI n (pe n k9) n 0 0 = erI n (pe n k9) I9 i a9) → (a9 ≤ 8 * i) → ∀ (ls : Array Slot), lv_has ls 7 [(0, .ref h), (1, .int (nI (s9))), (2, .int (nI (k9))), (3, .int (nI (pe n (k9)))), (4, .int (nI (a9))), (5, .int (nI (i)))] → W p l e ({ frames := 4, cells := 0, slots := 0, locals := 100 } : Room) s m args below meth c H locs 0 0 QQ (F0 m 40 ls []) := by
            intro I9
            induction I9 with
            | zero =>
              intro i a9 hI1 hr2 hal0 ls hl
              refine lv_iload hx hb dX1_even_40 (lv_at hl 5 rfl) ?_
              refine lv_aload_n hx hb dX1_even_42 rfl (lv_at hl 0 rfl) ?_
              refine va_get (D := D) (ci := 1) (v := .int (nI (n))) (C := RX1) (T := TX1) (N := 7) hx hb hts hin0 hown hK hP 0 rfl rfl 3 (by decide) hl_n (fun _ h9 => h9) rfl dX1_even_43 ?_
              refine lv_icmp_ge (tgt := 94) hx hb dX1_even_46 (by decide) (fun c_46 => ?_) (fun c_46 => ?_)
              ·
                have c_46 := (nI_leI (by omega) (by omega)).mp c_46
                have hal : a9 < 2 ^ 31 := by omega
                refine lv_iload hx hb dX1_even_94 (lv_at hl 4 rfl) ?_
                refine lv_iconst (v := nI (2)) hx hb dX1_even_96 (by decide) ?_
                refine lv_irem hx hb dX1_even_97 (nI_ne0 (by omega) (by omega)) ?_
                refine pu_tp (pk_rem hal (by omega) (by omega)) ?_
                refine lv_if_ne (tgt := 104) hx hb dX1_even_98 (by decide) (fun c_98 => ?_) (fun c_98 => ?_)
                ·
                  have c_98 : ¬ _ := fun h9 => c_98 ((nb_eq0 (by omega)).mpr h9)
                  refine lv_iinc (v := nI (k9 + 1)) (lv' := [(2, .int (nI (k9 + 1))), (0, .ref h), (1, .int (nI (s9))), (3, .int (nI (pe n (k9)))), (4, .int (nI (a9))), (5, .int (nI (i)))]) hx hb dX1_even_104 hl (k := 2) rfl (nI_1 _) (by decide) rfl (fun ls hl => ?_)
                  refine lv_goto (tgt := 8) hx hb dX1_even_107 (by decide) ?_
                  exact ih_8 (k9 + 1) s9 (by omega) (hr.trans (by first | exact erF_n c_22 | exact erF_m c_22 (by rw [hr2]; exact c_98))) ls (lv_sub hl [1, 2, 0] rfl)
                ·
                  have c_98 := (nb_eq0 (by omega)).mp c_98
                  refine lv_iinc (v := nI (s9 + 1)) (lv' := [(1, .int (nI (s9 + 1))), (0, .ref h), (2, .int (nI (k9))), (3, .int (nI (pe n (k9)))), (4, .int (nI (a9))), (5, .int (nI (i)))]) hx hb dX1_even_101 hl (k := 1) rfl (nI_1 _) (by decide) rfl (fun ls hl => ?_)
                  refine lv_iinc (v := nI (k9 + 1)) (lv' := [(2, .int (nI (k9 + 1))), (1, .int (nI (s9 + 1))), (0, .ref h), (3, .int (nI (pe n (k9)))), (4, .int (nI (a9))), (5, .int (nI (i)))]) hx hb dX1_even_104 hl (k := 2) rfl (nI_1 _) (by decide) rfl (fun ls hl => ?_)
                  refine lv_goto (tgt := 8) hx hb dX1_even_107 (by decide) ?_
                  exact ih_8 (k9 + 1) (s9 + 1) (by omega) (hr.trans (erF_y c_22 (by rw [hr2]; exact c_98))) ls (lv_sub hl [2, 1, 0] rfl)
              ·
                have c_46 : ¬ _ := fun h9 => c_46 ((nI_leI (by omega) (by omega)).mpr h9)
                exfalso; omega
            | succ I9 ih_40 =>
              intro i a9 hI1 hr2 hal0 ls hl
              refine lv_iload hx hb dX1_even_40 (lv_at hl 5 rfl) ?_
              refine lv_aload_n hx hb dX1_even_42 rfl (lv_at hl 0 rfl) ?_
              refine va_get (D := D) (ci := 1) (v := .int (nI (n))) (C := RX1) (T := TX1) (N := 7) hx hb hts hin0 hown hK hP 0 rfl rfl 3 (by decide) hl_n (fun _ h9 => h9) rfl dX1_even_43 ?_
              refine lv_icmp_ge (tgt := 94) hx hb dX1_even_46 (by decide) (fun c_46 => ?_) (fun c_46 => ?_)
              ·
                have c_46 := (nI_leI (by omega) (by omega)).mp c_46
                exfalso; omega
              ·
                have c_46 : ¬ _ := fun h9 => c_46 ((nI_leI (by omega) (by omega)).mpr h9)
                refine lv_iload hx hb dX1_even_49 (lv_at hl 5 rfl) ?_
                refine lv_iconst (v := nI (1)) hx hb dX1_even_51 (by decide) ?_
                refine lv_iadd hx hb dX1_even_52 ?_
                refine pu_tp (nI_add _ _) ?_
                refine lv_istore (lv' := [(6, .int (nI (i + 1))), (0, .ref h), (1, .int (nI (s9))), (2, .int (nI (k9))), (3, .int (nI (pe n (k9)))), (4, .int (nI (a9))), (5, .int (nI (i)))]) hx hb dX1_even_53 hl (by decide) rfl (fun ls hl => ?_)
                have loop_55 : ∀ (J j z9 : Nat), (j + J = n) → (erJ (pe n k9) i (n - (i + 1)) (i + 1) a9 = erJ (pe n k9) i J j z9) → ∀ (ls : Array Slot), lv_has ls 7 [(0, .ref h), (1, .int (nI (s9))), (2, .int (nI (k9))), (3, .int (nI (pe n (k9)))), (4, .int (nI (z9))), (5, .int (nI (i))), (6, .int (nI (j)))] → W p l e ({ frames := 4, cells := 0, slots := 0, locals := 100 } : Room) s m args below meth c H locs 0 0 QQ (F0 m 55 ls []) := by
                  intro J
                  induction J with
                  | zero =>
                    intro j z9 hJ1 hr3 ls hl
                    refine lv_iload hx hb dX1_even_55 (lv_at hl 6 rfl) ?_
                    refine lv_aload_n hx hb dX1_even_57 rfl (lv_at hl 0 rfl) ?_
                    refine va_get (D := D) (ci := 1) (v := .int (nI (n))) (C := RX1) (T := TX1) (N := 7) hx hb hts hin0 hown hK hP 0 rfl rfl 3 (by decide) hl_n (fun _ h9 => h9) rfl dX1_even_58 ?_
                    refine lv_icmp_ge (tgt := 88) hx hb dX1_even_61 (by decide) (fun c_61 => ?_) (fun c_61 => ?_)
                    ·
                      have c_61 := (nI_leI (by omega) (by omega)).mp c_61
                      refine lv_iinc (v := nI (i + 1)) (lv' := [(5, .int (nI (i + 1))), (0, .ref h), (1, .int (nI (s9))), (2, .int (nI (k9))), (3, .int (nI (pe n (k9)))), (4, .int (nI (z9))), (6, .int (nI (j)))]) hx hb dX1_even_88 hl (k := 5) rfl (nI_1 _) (by decide) rfl (fun ls hl => ?_)
                      refine lv_goto (tgt := 40) hx hb dX1_even_91 (by decide) ?_
                      exact ih_40 (i + 1) z9 (by omega) (by have hz : z9 = erJ (pe n k9) i (n - (i + 1)) (i + 1) a9 := hr3.symm; rw [hz]; exact hr2) (by have hz : erJ (pe n k9) i (n - (i + 1)) (i + 1) a9 = z9 := hr3; have := erJ_le (pe n k9) i (n - (i + 1)) (i + 1) a9; omega) ls (lv_sub hl [1, 2, 3, 4, 5, 0] rfl)
                    ·
                      have c_61 : ¬ _ := fun h9 => c_61 ((nI_leI (by omega) (by omega)).mpr h9)
                      exfalso; omega
                  | succ J ih_55 =>
                    intro j z9 hJ1 hr3 ls hl
                    refine lv_iload hx hb dX1_even_55 (lv_at hl 6 rfl) ?_
                    refine lv_aload_n hx hb dX1_even_57 rfl (lv_at hl 0 rfl) ?_
                    refine va_get (D := D) (ci := 1) (v := .int (nI (n))) (C := RX1) (T := TX1) (N := 7) hx hb hts hin0 hown hK hP 0 rfl rfl 3 (by decide) hl_n (fun _ h9 => h9) rfl dX1_even_58 ?_
                    refine lv_icmp_ge (tgt := 88) hx hb dX1_even_61 (by decide) (fun c_61 => ?_) (fun c_61 => ?_)
                    ·
                      have c_61 := (nI_leI (by omega) (by omega)).mp c_61
                      exfalso; omega
                    ·
                      have c_61 : ¬ _ := fun h9 => c_61 ((nI_leI (by omega) (by omega)).mpr h9)
                      refine lv_iload_n hx hb dX1_even_64 rfl (lv_at hl 3 rfl) ?_
                      refine lv_iload hx hb dX1_even_65 (lv_at hl 5 rfl) ?_
                      refine pu_S (As := [.int (nI (pe n (k9))), .int (nI (i))]) (rest := []) ⟨hx, hb, hml, hown, hts⟩ (kX1_image (P := pe n k9) (i := i) (Nat.lt_trans (pe_lt h7 _) (by decide)) (by omega)) (va_cwS 2 hts gX1_even_X1_image rfl rfl rfl eX1_image ⟨by decide, by decide⟩) hK rfl hl.1 rfl (Nat.le_of_ble_eq_true rfl) dX1_even_67 ⟨Nat.zero_le _, Nat.zero_le _⟩ ?_
                      refine lv_iload_n hx hb dX1_even_70 rfl (lv_at hl 3 rfl) ?_
                      refine lv_iload hx hb dX1_even_71 (lv_at hl 6 rfl) ?_
                      refine pu_S (As := [.int (nI (pe n (k9))), .int (nI (j))]) (rest := [.int (nI (im (pe n k9) i))]) ⟨hx, hb, hml, hown, hts⟩ (kX1_image (P := pe n k9) (i := j) (Nat.lt_trans (pe_lt h7 _) (by decide)) (by omega)) (va_cwS 2 hts gX1_even_X1_image rfl rfl rfl eX1_image ⟨by decide, by decide⟩) hK rfl hl.1 rfl (Nat.le_of_ble_eq_true rfl) dX1_even_73 ⟨Nat.zero_le _, Nat.zero_le _⟩ ?_
                      refine lv_icmp_le (tgt := 82) hx hb dX1_even_76 (by decide) (fun c_76 => ?_) (fun c_76 => ?_)
                      ·
                        have c_76 := (nI_leI (Nat.lt_trans (im_lt _ _) (by decide)) (Nat.lt_trans (im_lt _ _) (by decide))).mp c_76
                        refine lv_iinc (v := nI (j + 1)) (lv' := [(6, .int (nI (j + 1))), (0, .ref h), (1, .int (nI (s9))), (2, .int (nI (k9))), (3, .int (nI (pe n (k9)))), (4, .int (nI (z9))), (5, .int (nI (i)))]) hx hb dX1_even_82 hl (k := 6) rfl (nI_1 _) (by decide) rfl (fun ls hl => ?_)
                        refine lv_goto (tgt := 55) hx hb dX1_even_85 (by decide) ?_
                        exact ih_55 (j + 1) z9 (by omega) (hr3.trans (erJ_f (by omega))) ls (lv_sub hl [1, 2, 3, 4, 5, 6, 0] rfl)
                      ·
                        have c_76 : ¬ _ := fun h9 => c_76 ((nI_leI (Nat.lt_trans (im_lt _ _) (by decide)) (Nat.lt_trans (im_lt _ _) (by decide))).mpr h9)
                        refine lv_iinc (v := nI (z9 + 1)) (lv' := [(4, .int (nI (z9 + 1))), (0, .ref h), (1, .int (nI (s9))), (2, .int (nI (k9))), (3, .int (nI (pe n (k9)))), (5, .int (nI (i))), (6, .int (nI (j)))]) hx hb dX1_even_79 hl (k := 4) rfl (nI_1 _) (by decide) rfl (fun ls hl => ?_)
                        refine lv_iinc (v := nI (j + 1)) (lv' := [(6, .int (nI (j + 1))), (4, .int (nI (z9 + 1))), (0, .ref h), (1, .int (nI (s9))), (2, .int (nI (k9))), (3, .int (nI (pe n (k9)))), (5, .int (nI (i)))]) hx hb dX1_even_82 hl (k := 6) rfl (nI_1 _) (by decide) rfl (fun ls hl => ?_)
                        refine lv_goto (tgt := 55) hx hb dX1_even_85 (by decide) ?_
                        exact ih_55 (j + 1) (z9 + 1) (by omega) (hr3.trans (erJ_t (by omega))) ls (lv_sub hl [2, 3, 4, 5, 1, 6, 0] rfl)
                exact loop_55 (n - (i + 1)) (i + 1) a9 (by omega) rfl ls (lv_sub hl [1, 2, 3, 4, 5, 6, 0] rfl)
          exact loop_40 n 0 0 (by omega) rfl (by omega) ls (lv_sub hl [3, 4, 5, 2, 1, 0] rfl)
        ·
          refine lv_goto (tgt := 104) hx hb dX1_even_25 (by decide) ?_
          refine lv_iinc (v := nI (k9 + 1)) (lv' := [(2, .int (nI (k9 + 1))), (0, .ref h), (1, .int (nI (s9)))]) hx hb dX1_even_104 hl (k := 2) rfl (nI_1 _) (by decide) rfl (fun ls hl => ?_)
          refine lv_goto (tgt := 8) hx hb dX1_even_107 (by decide) ?_
          exact ih_8 (k9 + 1) s9 (by omega) (hr.trans (by first | exact erF_n c_22 | exact erF_m c_22 (by rw [hr2]; exact c_98))) ls (lv_sub hl [1, 2, 0] rfl)
  exact loop_8 (fac n) 0 0 (by omega) rfl ls (lv_sub hl [2, 1, 0] rfl)
end CXI
end
section
/-! ===== both sides answer alike: order, contains, element, rank, least, fixing ===== -/
theorem blF_cy (iv : Nat → Int32) : ∀ k m c, blF iv k m c = c + cy (fun m => decide (¬ iv m = 0)) k m
  | 0, _, _ => rfl
  | k + 1, m, c => by
      by_cases q : iv m = 0
      · rw [blF_n q, blF_cy iv k (m + 1) c]
        show _ = c + ((if decide (¬ iv m = 0) = true then 1 else 0) + _)
        rw [if_neg (by simpa using q)]
        omega
      · rw [blF_y q, blF_cy iv k (m + 1) (c + 1)]
        show _ = c + ((if decide (¬ iv m = 0) = true then 1 else 0) + _)
        rw [if_pos (by simpa using q)]
        omega
theorem bl_cy (iv : Nat → Int32) (k : Nat) : bl iv k = cy (fun m => decide (¬ iv m = 0)) k 0 := by unfold bl; rw [blF_cy, Nat.zero_add]
/-- a rising enumeration counts -/
theorem enum_cy {p : Nat → Bool} {e : Nat → Nat} {N M : Nat} (h1 : ∀ a b, a < b → b < N → e a < e b) (h2 : ∀ k, k < N → e k < M ∧ p (e k) = true) (h3 : ∀ m, m < M → p m = true → ∃ k, k < N ∧ e k = m) : cy p M 0 = N ∧ ∀ k, k < N → cy p (e k) 0 = k := by
  have mono : ∀ a b, a < N → b < N → e a < e b → a < b := fun a b ha hb h => by
    rcases Nat.lt_trichotomy a b with q | q | q
    · exact q
    · subst q; omega
    · have := h1 b a q ha; omega
  have f : ∀ {m : Nat}, ¬ p m = true → p m = false := fun {m} h => by cases hb : p m <;> simp_all
  have key : ∀ k, k < N → cy p (e k) 0 = k := by
    intro k
    induction k with
    | zero =>
      intro hk
      refine cy_none _ _ (fun m _ hm => f (fun hp => ?_))
      obtain ⟨q, hq, eq⟩ := h3 m (by have := (h2 0 hk).1; omega) hp
      have := mono q 0 hq hk (by omega)
      omega
    | succ k ih =>
      intro hk
      have hlt := h1 k (k + 1) (by omega) hk
      have ha := cy_app p (e k) (e (k + 1) - e k) 0
      rw [show e k + (e (k + 1) - e k) = e (k + 1) by omega, Nat.zero_add, ih (by omega)] at ha
      have hb := cy_app p 1 (e (k + 1) - e k - 1) (e k)
      rw [show 1 + (e (k + 1) - e k - 1) = e (k + 1) - e k by omega, cy_one (h2 k (by omega)).2, cy_none (e (k + 1) - e k - 1) (e k + 1) (fun m a1 a2 => f (fun hp => by
        obtain ⟨q, hq, eq⟩ := h3 m (by have := (h2 (k + 1) hk).1; omega) hp
        have c1 := mono k q (by omega) hq (by omega)
        have c2 := mono q (k + 1) hq hk (by omega)
        omega))] at hb
      omega
  refine ⟨?_, key⟩
  by_cases hN : N = 0
  · subst hN
    refine cy_none _ _ (fun m _ hm => f (fun hp => ?_))
    obtain ⟨q, hq, -⟩ := h3 m (by omega) hp
    omega
  · have hk : N - 1 < N := by omega
    have hm := (h2 (N - 1) hk).1
    have ha := cy_app p (e (N - 1)) (M - e (N - 1)) 0
    rw [show e (N - 1) + (M - e (N - 1)) = M by omega, Nat.zero_add, key (N - 1) hk] at ha
    have hb := cy_app p 1 (M - e (N - 1) - 1) (e (N - 1))
    rw [show 1 + (M - e (N - 1) - 1) = M - e (N - 1) by omega, cy_one (h2 (N - 1) hk).2, cy_none (M - e (N - 1) - 1) (e (N - 1) + 1) (fun m a1 a2 => f (fun hp => by
      obtain ⟨q, hq, eq⟩ := h3 m (by omega) hp
      have c1 := mono (N - 1) q hk hq (by omega)
      omega))] at hb
    omega
theorem elS_at {iv : Nat → Int32} {t : Nat} (ht : ¬ iv t = 0) : ∀ k m l, m ≤ t → t < m + k → cy (fun m => decide (¬ iv m = 0)) (t - m) m = l → elS iv k m l = t
  | 0, m, l, h1, h2, _ => by omega
  | k + 1, m, l, h1, h2, h3 => by
      by_cases e : m = t
      · subst e
        rw [Nat.sub_self] at h3
        exact elS_h ht (show l = 0 from h3.symm)
      · rw [show t - m = (t - (m + 1)) + 1 by omega] at h3
        have h3 : (if decide (¬ iv m = 0) = true then 1 else 0) + cy (fun m => decide (¬ iv m = 0)) (t - (m + 1)) (m + 1) = l := h3
        by_cases c : iv m = 0
        · rw [elS_n c]
          rw [if_neg (by simpa using c), Nat.zero_add] at h3
          exact elS_at ht k (m + 1) l (by omega) (by omega) h3
        · rw [if_pos (by simpa using c)] at h3
          rw [elS_s c (by omega)]
          exact elS_at ht k (m + 1) (l - 1) (by omega) (by omega) (by omega)
theorem leF_at {n P t : Nat} {iv : Nat → Int32} : ∀ j k be, t ≤ be → (∀ q, k ≤ q → q < k + j → ¬ iv q = 0 → t ≤ nu n (tm n (pe n q) P)) → (t = be ∨ ∃ q, k ≤ q ∧ q < k + j ∧ ¬ iv q = 0 ∧ nu n (tm n (pe n q) P) = t) → leF n iv P j k be = t
  | 0, k, be, _, _, h => by
      rcases h with h | ⟨q, h1, h2, -⟩
      · exact h.symm
      · omega
  | j + 1, k, be, h1, h2, h3 => by
      have h2' : ∀ q, k + 1 ≤ q → q < k + 1 + j → ¬ iv q = 0 → t ≤ nu n (tm n (pe n q) P) := fun q a b c => h2 q (by omega) (by omega) c
      have h3' : ∀ be', (k ≤ k → ¬ iv k = 0 → nu n (tm n (pe n k) P) = t → t = be') → (t = be → t = be') → (t = be' ∨ ∃ q, k + 1 ≤ q ∧ q < k + 1 + j ∧ ¬ iv q = 0 ∧ nu n (tm n (pe n q) P) = t) := fun be' a b => by
        rcases h3 with h | ⟨q, c1, c2, c3, c4⟩
        · exact Or.inl (b h)
        · by_cases e : q = k
          · subst e; exact Or.inl (a (Nat.le_refl _) c3 c4)
          · exact Or.inr ⟨q, by omega, by omega, c3, c4⟩
      by_cases c : iv k = 0
      · rw [leF_n c]
        exact leF_at j (k + 1) be h1 h2' (h3' be (fun _ q _ => absurd c q) id)
      · have hk := h2 k (Nat.le_refl _) (by omega) c
        by_cases d : nu n (tm n (pe n k) P) < be
        · rw [leF_y c d]
          exact leF_at j (k + 1) _ hk h2' (h3' _ (fun _ _ e => e.symm) (fun e => by omega))
        · rw [leF_m c d]
          exact leF_at j (k + 1) be h1 h2' (h3' be (fun _ _ e => by omega) id)
theorem fiI_FX (P : Nat) : ∀ j i b, fiI P j i b = true ↔ b = true ∧ ∀ q, i ≤ q → q < i + j → im P q = q
  | 0, i, b => ⟨fun h => ⟨h, fun q h1 h2 => by omega⟩, fun h => h.1⟩
  | j + 1, i, b => by
      by_cases c : im P i = i
      · rw [fiI_t c, fiI_FX P j (i + 1) b]
        refine ⟨fun h => ⟨h.1, fun q h1 h2 => ?_⟩, fun h => ⟨h.1, fun q h1 h2 => h.2 q (by omega) (by omega)⟩⟩
        by_cases e : q = i
        · rw [e]; exact c
        · exact h.2 q (by omega) (by omega)
      · rw [fiI_f c, fiI_FX P j (i + 1) false]
        exact ⟨fun h => absurd h.1 (by decide), fun h => absurd (h.2 i (Nat.le_refl _) (by omega)) c⟩
theorem fiF_cy (n : Nat) (iv : Nat → Int32) (X : Nat) : ∀ j k c, fiF n iv X j k c = c + cy (fun k => decide (¬ iv k = 0) && fiI (pe n k) X 0 true) j k
  | 0, _, _ => rfl
  | j + 1, k, c => by
      by_cases q : iv k = 0
      · rw [fiF_n q, fiF_cy n iv X j (k + 1) c]
        show _ = c + ((if (decide (¬ iv k = 0) && fiI (pe n k) X 0 true) = true then 1 else 0) + _)
        rw [if_neg (by simp [q])]
        omega
      · cases d : fiI (pe n k) X 0 true with
        | true =>
          rw [fiF_y q d, fiF_cy n iv X j (k + 1) (c + 1)]
          show _ = c + ((if (decide (¬ iv k = 0) && fiI (pe n k) X 0 true) = true then 1 else 0) + _)
          rw [if_pos (by simp [q, d])]
          omega
        | false =>
          rw [fiF_m q d, fiF_cy n iv X j (k + 1) c]
          show _ = c + ((if (decide (¬ iv k = 0) && fiI (pe n k) X 0 true) = true then 1 else 0) + _)
          rw [if_neg (by simp [d])]
          omega
theorem rs_drop {n : Nat} {f : Nat → Int32} : ∀ d c a P, c + d = a → a ≤ n → FX a P → rsF f n (n - c) c P = rsF f n (n - a) a P
  | 0, c, a, P, hc, _, _ => by rw [show c = a by omega]
  | d + 1, c, a, P, hc, ha, hF => by
      rw [show n - c = (n - (c + 1)) + 1 by omega, rsF_eq (hF c (by omega))]
      exact rs_drop d (c + 1) a P (by omega) ha hF
section TIE
variable {n ct : Nat} {f gn iv : Nat → Int32}
theorem FP_nz (hF : FP n ct gn iv) {m : Nat} (hm : m < 5040) : ¬ iv m = 0 ↔ m < fac n ∧ inG n ct (gC gn) (pe n m) := by
  rw [← hF.2 m hm]
  rcases hF.1 m hm with e | e <;> simp [e]
theorem FP_nu (h1 : 1 ≤ n) (h7 : n ≤ 7) (hF : FP n ct gn iv) {P : Nat} (hP : PM n P) : ¬ iv (nu n P) = 0 ↔ inG n ct (gC gn) P := by
  have hl := nu_lt h1 h7 hP
  have := fac_le h7
  rw [FP_nz hF (by omega), pe_nu h1 h7 hP]
  exact ⟨fun q => q.2, fun q => ⟨hl, q⟩⟩
/-- the part that leaves the points below lv alone, counted -/
theorem tie_lv (h1 : 1 ≤ n) (h7 : n ≤ 7) (hg : ∀ j, j < ct → PM n (gC gn j)) (hV : VC n f (inG n ct (gC gn))) (hF : FP n ct gn iv) {lv : Nat} (hl : lv ≤ n) :
    cy (fun k => decide (¬ iv k = 0) && fiI (pe n k) lv 0 true) (fac n) 0 = fx f n lv ∧ ∀ k, k < fx f n lv → cy (fun k => decide (¬ iv k = 0) && fiI (pe n k) lv 0 true) (nu n (icF f n (n - lv) lv (idn n) k)) 0 = k := by
  have hG := GG_inG h7 hg
  have hfl := fac_le h7
  obtain ⟨A, B, C⟩ := ic_all h7 hV.1 (n - lv) lv (by omega) (idn n) (PM_id h7)
  have mem : ∀ k, k < fx f n lv → MM n f lv (icF f n (n - lv) lv (idn n) k) := fun k hk => by
    obtain ⟨X, hX, e⟩ := A k hk
    rw [e, tm_id h7 hX.1]
    exact hX
  have up : ∀ X, MM n f lv X → inG n ct (gC gn) X := fun X hX => (VC_MM h7 hG hV).mp (MM_le h7 hV.1 lv 0 (by omega) (by rw [Nat.zero_add]; exact hX))
  refine enum_cy (fun a b hab hb => (nu_lx h1 h7 (mem a (by omega)).1 (mem b hb).1).mpr (B a b hab hb)) (fun k hk => ?_) (fun m hm hp => ?_)
  · have hM := mem k hk
    refine ⟨nu_lt h1 h7 hM.1, ?_⟩
    rw [Bool.and_eq_true, pe_nu h1 h7 hM.1]
    exact ⟨decide_eq_true ((FP_nu h1 h7 hF hM.1).mpr (up _ hM)), (fiI_FX _ lv 0 true).mpr ⟨rfl, fun q _ h2 => hM.2.1 q (by omega)⟩⟩
  · rw [Bool.and_eq_true] at hp
    have hz := (FP_nz hF (show m < 5040 by omega)).mp (of_decide_eq_true hp.1)
    have hPM := pe_PM h1 h7 hm
    have hfx : FX lv (pe n m) := fun q hq => ((fiI_FX _ lv 0 true).mp hp.2).2 q (Nat.zero_le _) (by omega)
    have h0 := (VC_MM h7 hG hV).mpr hz.2
    have hM : MM n f lv (pe n m) := ⟨hPM, hfx, by rw [← rs_drop lv 0 lv _ (by omega) hl hfx]; exact h0.2.2⟩
    obtain ⟨c1, c2⟩ := C _ hM
    rw [tm_id h7 hPM] at c1 c2
    exact ⟨_, c1, by rw [c2, nu_pe h1 h7 hm]⟩
theorem fi0 (iv : Nat → Int32) : (fun k => decide (¬ iv k = 0) && fiI (pe n k) 0 0 true) = (fun k => decide (¬ iv k = 0)) := by
  funext k
  show (decide (¬ iv k = 0) && true) = _
  rw [Bool.and_true]
theorem tie_order (h1 : 1 ≤ n) (h7 : n ≤ 7) (hg : ∀ j, j < ct → PM n (gC gn j)) (hV : VC n f (inG n ct (gC gn))) (hF : FP n ct gn iv) : bl iv (fac n) = fx f n 0 := by
  have := (tie_lv h1 h7 hg hV hF (Nat.zero_le n)).1
  rw [fi0] at this
  rw [bl_cy]
  exact this
theorem tie_fixing (h1 : 1 ≤ n) (h7 : n ≤ 7) (hg : ∀ j, j < ct → PM n (gC gn j)) (hV : VC n f (inG n ct (gC gn))) (hF : FP n ct gn iv) {X : Nat} (hX : X ≤ n) : fiF n iv X (fac n) 0 0 = fx f n X := by
  rw [fiF_cy, Nat.zero_add]
  exact (tie_lv h1 h7 hg hV hF hX).1
theorem tie_contains (h1 : 1 ≤ n) (h7 : n ≤ 7) (hg : ∀ j, j < ct → PM n (gC gn j)) (hV : VC n f (inG n ct (gC gn))) (hF : FP n ct gn iv) {P : Nat} (hP : PM n P) : b01 (decide (rs f n P = idn n)) = iv (nu n P) := by
  have hG := GG_inG h7 hg
  have hl := nu_lt h1 h7 hP
  have hfl := fac_le h7
  by_cases c : rs f n P = idn n
  · rw [decide_eq_true c]
    have := (FP_nu h1 h7 hF hP).mpr ((VC_iff h7 hG hV hP).mp c)
    rcases hF.1 (nu n P) (by omega) with e | e
    · exact absurd e this
    · rw [e]; rfl
  · rw [decide_eq_false c]
    have : iv (nu n P) = 0 := Classical.byContradiction (fun q => c ((VC_iff h7 hG hV hP).mpr ((FP_nu h1 h7 hF hP).mp q)))
    rw [this]; rfl
theorem tie_element (h1 : 1 ≤ n) (h7 : n ≤ 7) (hg : ∀ j, j < ct → PM n (gC gn j)) (hV : VC n f (inG n ct (gC gn))) (hF : FP n ct gn iv) {k : Nat} (hk : k < fx f n 0) : pe n (elS iv 5040 0 k) = ic f n (idn n) k := by
  have hG := GG_inG h7 hg
  have hfl := fac_le h7
  obtain ⟨A, -, -⟩ := ic_all h7 hV.1 n 0 (by omega) (idn n) (PM_id h7)
  obtain ⟨X, hX, e⟩ := A k hk
  rw [tm_id h7 hX.1] at e
  have hPM : PM n (ic f n (idn n) k) := by rw [show ic f n (idn n) k = X from e]; exact hX.1
  have hin : inG n ct (gC gn) (ic f n (idn n) k) := by rw [show ic f n (idn n) k = X from e]; exact (VC_MM h7 hG hV).mp hX
  have hl := nu_lt h1 h7 hPM
  have hc := (tie_lv h1 h7 hg hV hF (Nat.zero_le n)).2 k hk
  rw [fi0] at hc
  rw [elS_at (t := nu n (ic f n (idn n) k)) ((FP_nu h1 h7 hF hPM).mpr hin) 5040 0 k (Nat.zero_le _) (by omega) hc, pe_nu h1 h7 hPM]
theorem tie_rank (h1 : 1 ≤ n) (h7 : n ≤ 7) (hg : ∀ j, j < ct → PM n (gC gn j)) (hV : VC n f (inG n ct (gC gn))) (hF : FP n ct gn iv) {P : Nat} (hP : inG n ct (gC gn) P) : bl iv (nu n P) = eb f n (idn n) P := by
  have hG := GG_inG h7 hg
  obtain ⟨-, -, C⟩ := ic_all h7 hV.1 n 0 (by omega) (idn n) (PM_id h7)
  have hM := (VC_MM h7 hG hV).mpr hP
  obtain ⟨c1, c2⟩ := C P hM
  rw [tm_id h7 hM.1] at c1 c2
  have hc := (tie_lv h1 h7 hg hV hF (Nat.zero_le n)).2 _ c1
  rw [fi0] at hc
  have hc : cy (fun k => decide (¬ iv k = 0)) (nu n (icF f n n 0 (idn n) (ebF f n P n 0 0 (idn n)))) 0 = ebF f n P n 0 0 (idn n) := hc
  rw [c2] at hc
  rw [bl_cy]
  exact hc
theorem tie_least (h1 : 1 ≤ n) (h7 : n ≤ 7) (hg : ∀ j, j < ct → PM n (gC gn j)) (hV : VC n f (inG n ct (gC gn))) (hF : FP n ct gn iv) {P : Nat} (hP : PM n P) : pe n (leF n iv P (fac n) 0 5040) = ic f n P 0 := by
  have hG := GG_inG h7 hg
  have hfl := fac_le h7
  obtain ⟨A, B, C⟩ := ic_all h7 hV.1 n 0 (by omega) P hP
  have hpos : 0 < fx f n 0 := by
    have := (C (idn n) (MM_id h7 (Nat.zero_le n))).1
    omega
  obtain ⟨X, hX, e⟩ := A 0 hpos
  have e : ic f n P 0 = tm n X P := e
  have hPM : PM n (ic f n P 0) := by rw [e]; exact PM_tm hX.1 hP
  have hl := nu_lt h1 h7 hPM
  have hXG := (VC_MM h7 hG hV).mp hX
  have hXl := nu_lt h1 h7 hX.1
  rw [leF_at (t := nu n (ic f n P 0)) (fac n) 0 5040 (by omega) (fun q _ hq hz => ?_) (Or.inr ⟨nu n X, Nat.zero_le _, by omega, (FP_nu h1 h7 hF hX.1).mpr hXG, by rw [pe_nu h1 h7 hX.1, e]⟩), pe_nu h1 h7 hPM]
  have hqG := ((FP_nz hF (show q < 5040 by omega)).mp hz).2
  obtain ⟨c1, c2⟩ := C _ ((VC_MM h7 hG hV).mpr hqG)
  have hqP := PM_tm (inG_PM h7 hg hqG) hP
  rw [← c2] at hqP ⊢
  by_cases c : ebF f n (tm n (pe n q) P) n 0 0 P = 0
  · rw [c]; exact Nat.le_refl _
  · exact Nat.le_of_lt ((nu_lx h1 h7 hPM hqP).mpr (B 0 _ (by omega) c1))
/-- an empty table is the group of the identity -/
theorem VC_begin (h7 : n ≤ 7) (hf : ∀ j, j < 56 → f j = bgR n j) (g : Nat → Nat) : VC n f (inG n 0 g) := by
  have hid := idn_lt h7
  have hd : ∀ lv, lv < n → f (lv * 8 + lv) = nI (idn n) := fun lv hl => by rw [hf _ (by omega), bgR, if_pos (by omega)]
  have hno : ∀ lv x, lv < n → x < 8 → x ≠ lv → f (lv * 8 + x) = -1 := fun lv x hl hx hne => by rw [hf _ (by omega), bgR, if_neg (by omega)]
  refine ⟨⟨fun lv hl => ⟨by unfold EN; rw [hd lv hl]; exact nb_m1 (by omega), by unfold en; rw [hd lv hl, tn_nI (by omega)]⟩, fun lv x hl hx hE => ?_⟩, fun P hP => ?_⟩
  · by_cases c : x = lv
    · subst c
      have e : en f x x = idn n := by unfold en; rw [hd x hl, tn_nI (by omega)]
      rw [e]
      exact ⟨hl, PM_id h7, FX_id h7 (by omega), by rw [idn_im h7, if_pos hl], inG_id⟩
    · exact absurd (hno lv x hl hx c) hE
  · obtain ⟨w, hw, rfl⟩ := hP
    cases w with
    | nil => exact rs_id h7 n 0 (by omega)
    | cons j w => exact absurd (hw j List.mem_cons_self) (Nat.not_lt_zero _)
end TIE
end
section
/-! ===== orbits ===== -/
theorem bit_iff (S i : Nat) : S / 2 ^ i % 2 = 1 ↔ S.testBit i = true := by rw [Nat.testBit_eq_decide_div_mod_eq, decide_eq_true_eq]
theorem imF_bit (S P : Nat) : ∀ k i a y, (imF S P k i a).testBit y = true ↔ a.testBit y = true ∨ ∃ j, i ≤ j ∧ j < i + k ∧ S.testBit j = true ∧ im P j = y
  | 0, i, a, y => ⟨Or.inl, fun h => h.elim id (fun ⟨j, h1, h2, _⟩ => by omega)⟩
  | k + 1, i, a, y => by
      by_cases c : S / 2 ^ i % 2 = 1
      · rw [imF_t c, imF_bit S P k (i + 1), Nat.testBit_or, Bool.or_eq_true, Nat.one_mul, Nat.testBit_two_pow, decide_eq_true_eq]
        constructor
        · rintro ((h | h) | ⟨j, h1, h2, h3, h4⟩)
          · exact Or.inl h
          · exact Or.inr ⟨i, by omega, by omega, (bit_iff S i).mp c, h⟩
          · exact Or.inr ⟨j, by omega, by omega, h3, h4⟩
        · rintro (h | ⟨j, h1, h2, h3, h4⟩)
          · exact Or.inl (Or.inl h)
          · by_cases e : j = i
            · subst e; exact Or.inl (Or.inr h4)
            · exact Or.inr ⟨j, by omega, by omega, h3, h4⟩
      · rw [imF_f c, imF_bit S P k (i + 1)]
        constructor
        · rintro (h | ⟨j, h1, h2, h3, h4⟩)
          · exact Or.inl h
          · exact Or.inr ⟨j, by omega, by omega, h3, h4⟩
        · rintro (h | ⟨j, h1, h2, h3, h4⟩)
          · exact Or.inl h
          · by_cases e : j = i
            · subst e; exact absurd ((bit_iff S j).mpr h3) c
            · exact Or.inr ⟨j, by omega, by omega, h3, h4⟩
def sub2 (a b : Nat) : Prop := ∀ y, a.testBit y = true → b.testBit y = true
theorem sub2_rf (a : Nat) : sub2 a a := fun _ h => h
theorem sub2_tr {a b c : Nat} (h1 : sub2 a b) (h2 : sub2 b c) : sub2 a c := fun y h => h2 y (h1 y h)
theorem sub2_as {a b : Nat} (h1 : sub2 a b) (h2 : sub2 b a) : a = b := by
  apply Nat.eq_of_testBit_eq
  intro y
  cases ha : a.testBit y with
  | true => rw [h1 y ha]
  | false =>
    cases hb : b.testBit y with
    | true => rw [h2 y hb] at ha; exact absurd ha (by decide)
    | false => rfl
theorem sub2_or (a b : Nat) : sub2 a (a ||| b) := fun y h => by rw [Nat.testBit_or, h]; rfl
section ORB
variable {n ct : Nat} {ad : Nat → Int32}
theorem obI_sub : ∀ j k r, sub2 r (obI ad n j k r)
  | 0, _, r => sub2_rf r
  | j + 1, k, r => sub2_tr (sub2_or r _) (obI_sub j (k + 1) _)
theorem obF_sub : ∀ j t r, sub2 r (obF ad n ct j t r)
  | 0, _, r => sub2_rf r
  | j + 1, t, r => sub2_tr (obI_sub ct 0 r) (obF_sub j (t + 1) _)
def clo (n ct : Nat) (ad : Nat → Int32) (r : Nat) : Prop := ∀ k i, k < ct → i < n → r.testBit i = true → r.testBit (im (tn (ad k)) i) = true
theorem obI_fix : ∀ j k r, obI ad n j k r = r → ∀ q i, k ≤ q → q < k + j → i < n → r.testBit i = true → r.testBit (im (tn (ad q)) i) = true
  | 0, k, r, _, q, i, h1, h2, _, _ => by omega
  | j + 1, k, r, h, q, i, h1, h2, hi, hb => by
      have h : obI ad n j (k + 1) (r ||| imF r (tn (ad k)) n 0 0) = r := h
      have e : r ||| imF r (tn (ad k)) n 0 0 = r := sub2_as (fun y hy => by
        have := obI_sub (ad := ad) (n := n) j (k + 1) (r ||| imF r (tn (ad k)) n 0 0) y hy
        rw [h] at this
        exact this) (sub2_or _ _)
      by_cases c : q = k
      · subst c
        have : (r ||| imF r (tn (ad q)) n 0 0).testBit (im (tn (ad q)) i) = true := by
          rw [Nat.testBit_or, Bool.or_eq_true]
          exact Or.inr ((imF_bit _ _ _ _ _ _).mpr (Or.inr ⟨i, Nat.zero_le _, by omega, hb, rfl⟩))
        rw [e] at this
        exact this
      · rw [e] at h
        exact obI_fix j (k + 1) r h q i (by omega) (by omega) hi hb
theorem obF_fix {r : Nat} (h : obI ad n ct 0 r = r) : ∀ j t, obF ad n ct j t r = r
  | 0, _ => rfl
  | j + 1, t => by
      show obF ad n ct j (t + 1) (obI ad n ct 0 r) = r
      rw [h]
      exact obF_fix h j (t + 1)
def pcn (n r : Nat) : Nat := cy (fun y => r.testBit y) n 0
theorem cy_le {p q : Nat → Bool} : ∀ k y, (∀ j, p j = true → q j = true) → cy p k y ≤ cy q k y
  | 0, _, _ => Nat.le_refl _
  | k + 1, y, h => by
      show (if p y = true then 1 else 0) + cy p k (y + 1) ≤ (if q y = true then 1 else 0) + cy q k (y + 1)
      have := cy_le k (y + 1) h
      by_cases c : p y = true
      · rw [if_pos c, if_pos (h y c)]; omega
      · rw [if_neg c]; omega
theorem cy_max (p : Nat → Bool) : ∀ k y, cy p k y ≤ k
  | 0, _ => Nat.le_refl _
  | k + 1, y => by
      show (if p y = true then 1 else 0) + cy p k (y + 1) ≤ k + 1
      have := cy_max p k (y + 1)
      split <;> omega
theorem pcn_lt {r s : Nat} (h : sub2 r s) {y : Nat} (hy : y < n) (h1 : r.testBit y = false) (h2 : s.testBit y = true) : pcn n r + 1 ≤ pcn n s := by
  unfold pcn
  have a1 := cy_app (fun y => r.testBit y) y (n - y) 0
  have a2 := cy_app (fun y => s.testBit y) y (n - y) 0
  have b1 := cy_app (fun y => r.testBit y) 1 (n - y - 1) y
  have b2 := cy_app (fun y => s.testBit y) 1 (n - y - 1) y
  rw [show y + (n - y) = n by omega, Nat.zero_add] at a1 a2
  rw [show 1 + (n - y - 1) = n - y by omega] at b1 b2
  rw [cy_one (p := fun y => s.testBit y) h2] at b2
  rw [cy_none (p := fun y => r.testBit y) 1 y (fun j c1 c2 => by rw [show j = y by omega]; exact h1)] at b1
  have c1 := cy_le (p := fun y => r.testBit y) (q := fun y => s.testBit y) y 0 h
  have c2 := cy_le (p := fun y => r.testBit y) (q := fun y => s.testBit y) (n - y - 1) (y + 1) h
  omega
/-- only points are reached -/
def pts (n r : Nat) : Prop := ∀ y, r.testBit y = true → y < n
theorem obI_pts (hg : ∀ j, j < ct → PM n (gC ad j)) : ∀ j k r, k + j ≤ ct → pts n r → pts n (obI ad n j k r)
  | 0, _, _, _, h => h
  | j + 1, k, r, hk, h => obI_pts hg j (k + 1) _ (by omega) (fun y hy => by
      rw [Nat.testBit_or, Bool.or_eq_true] at hy
      rcases hy with hy | hy
      · exact h y hy
      · rcases (imF_bit _ _ _ _ _ _).mp hy with q | ⟨i, -, q2, -, q4⟩
        · simp at q
        · rw [← q4]; exact (hg k (by omega)).2.1 i (by omega))
theorem obF_grow (hg : ∀ j, j < ct → PM n (gC ad j)) : ∀ j t r, pts n r → pts n (obF ad n ct j t r) ∧ (clo n ct ad (obF ad n ct j t r) ∨ pcn n r + j ≤ pcn n (obF ad n ct j t r))
  | 0, _, r, h => ⟨h, Or.inr (Nat.le_refl _)⟩
  | j + 1, t, r, h => by
      have hp := obI_pts hg ct 0 r (by omega) h
      by_cases e : obI ad n ct 0 r = r
      · have e2 : obF ad n ct (j + 1) t r = r := obF_fix e (j + 1) t
        rw [e2]
        exact ⟨h, Or.inl (fun k i hk hi hb => obI_fix ct 0 r e k i (Nat.zero_le _) (by omega) hi hb)⟩
      · obtain ⟨h1, h2⟩ := obF_grow hg j (t + 1) (obI ad n ct 0 r) hp
        refine ⟨h1, h2.imp id (fun q => ?_)⟩
        have hs : sub2 r (obI ad n ct 0 r) := obI_sub ct 0 r
        have : ∃ y, r.testBit y = false ∧ (obI ad n ct 0 r).testBit y = true := Classical.byContradiction (fun hc => e (sub2_as (fun y hy => by
          cases hb : r.testBit y with
          | true => rfl
          | false => exact absurd ⟨y, hb, hy⟩ hc) hs))
        obtain ⟨y, y1, y2⟩ := this
        have := pcn_lt hs (hp y y2) y1 y2
        show pcn n r + (j + 1) ≤ pcn n (obF ad n ct j (t + 1) (obI ad n ct 0 r))
        omega
theorem obI_in (hg : ∀ j, j < ct → PM n (gC ad j)) {X : Nat} (hX : X < n) : ∀ j k r, k + j ≤ ct → (∀ y, r.testBit y = true → ∃ P, inG n ct (gC ad) P ∧ im P X = y) → ∀ y, (obI ad n j k r).testBit y = true → ∃ P, inG n ct (gC ad) P ∧ im P X = y
  | 0, _, _, _, h => h
  | j + 1, k, r, hk, h => obI_in hg hX j (k + 1) _ (by omega) (fun y hy => by
      rw [Nat.testBit_or, Bool.or_eq_true] at hy
      rcases hy with hy | hy
      · exact h y hy
      · rcases (imF_bit _ _ _ _ _ _).mp hy with q | ⟨i, -, q2, q3, q4⟩
        · simp at q
        · obtain ⟨P, p1, p2⟩ := h i q3
          exact ⟨tm n P (gC ad k), inG_mg p1 (by omega), by rw [tm_im, if_pos hX, p2]; exact q4⟩)
theorem obF_in (hg : ∀ j, j < ct → PM n (gC ad j)) {X : Nat} (hX : X < n) : ∀ j t r, (∀ y, r.testBit y = true → ∃ P, inG n ct (gC ad) P ∧ im P X = y) → ∀ y, (obF ad n ct j t r).testBit y = true → ∃ P, inG n ct (gC ad) P ∧ im P X = y
  | 0, _, _, h => h
  | j + 1, t, r, h => obF_in hg hX j (t + 1) _ (obI_in hg hX ct 0 r (by omega) h)
theorem orF_bit (iv : Nat → Int32) (X : Nat) : ∀ j k s y, (orF n iv X j k s).testBit y = true ↔ s.testBit y = true ∨ ∃ m, k ≤ m ∧ m < k + j ∧ ¬ iv m = 0 ∧ im (pe n m) X = y
  | 0, k, s, y => ⟨Or.inl, fun h => h.elim id (fun ⟨j, h1, h2, _⟩ => by omega)⟩
  | j + 1, k, s, y => by
      by_cases c : iv k = 0
      · rw [orF_n c, orF_bit iv X j (k + 1)]
        constructor
        · rintro (h | ⟨m, h1, h2, h3⟩)
          · exact Or.inl h
          · exact Or.inr ⟨m, by omega, by omega, h3⟩
        · rintro (h | ⟨m, h1, h2, h3, h4⟩)
          · exact Or.inl h
          · by_cases e : m = k
            · subst e; exact absurd c h3
            · exact Or.inr ⟨m, by omega, by omega, h3, h4⟩
      · rw [orF_y c, orF_bit iv X j (k + 1), Nat.testBit_or, Bool.or_eq_true, Nat.one_mul, Nat.testBit_two_pow, decide_eq_true_eq]
        constructor
        · rintro ((h | h) | ⟨m, h1, h2, h3⟩)
          · exact Or.inl h
          · exact Or.inr ⟨k, by omega, by omega, c, h⟩
          · exact Or.inr ⟨m, by omega, by omega, h3⟩
        · rintro (h | ⟨m, h1, h2, h3, h4⟩)
          · exact Or.inl (Or.inl h)
          · by_cases e : m = k
            · subst e; exact Or.inl (Or.inr h4)
            · exact Or.inr ⟨m, by omega, by omega, h3, h4⟩
theorem tie_orbit {iv gn : Nat → Int32} (h1 : 1 ≤ n) (h7 : n ≤ 7) (hg : ∀ j, j < ct → PM n (gC ad j)) (he : ∀ j, j < ct → gC gn j = gC ad j) (hF : FP n ct gn iv) {X : Nat} (hX : X < n) : orF n iv X (fac n) 0 0 = obF ad n ct n 0 (1 * 2 ^ X) := by
  have hfl := fac_le h7
  have hb0 : ∀ y, (1 * 2 ^ X).testBit y = true ↔ X = y := fun y => by rw [Nat.one_mul, Nat.testBit_two_pow, decide_eq_true_eq]
  have hG : ∀ P, inG n ct (gC gn) P ↔ inG n ct (gC ad) P := fun P => inG_congr he
  refine sub2_as (fun y hy => ?_) (fun y hy => ?_)
  · rcases (orF_bit iv X (fac n) 0 0 y).mp hy with q | ⟨m, -, q2, q3, q4⟩
    · simp at q
    · have hP := (hG _).mp ((FP_nz hF (show m < 5040 by omega)).mp q3).2
      obtain ⟨p1, p2⟩ := obF_grow hg n 0 (1 * 2 ^ X) (fun y hy => by rw [← (hb0 y).mp hy]; exact hX)
      have hclo : clo n ct ad (obF ad n ct n 0 (1 * 2 ^ X)) := by
        rcases p2 with p2 | p2
        · exact p2
        · exfalso
          have a1 : pcn n (obF ad n ct n 0 (1 * 2 ^ X)) ≤ n := cy_max _ _ _
          have a2 : 1 ≤ pcn n (1 * 2 ^ X) := by
            have := cy_lt (p := fun y => (1 * 2 ^ X).testBit y) hX ((hb0 X).mpr rfl)
            unfold pcn
            omega
          omega
      have key : PM n (pe n m) ∧ (obF ad n ct n 0 (1 * 2 ^ X)).testBit (im (pe n m) X) = true := inG_min (S := fun P => PM n P ∧ (obF ad n ct n 0 (1 * 2 ^ X)).testBit (im P X) = true) ⟨PM_id h7, by rw [idn_im h7, if_pos hX]; exact obF_sub n 0 _ X ((hb0 X).mpr rfl)⟩ (fun P j hP hj => ⟨PM_tm hP.1 (hg j hj), by rw [tm_im, if_pos hX]; exact hclo j _ hj (hP.1.2.1 X hX) hP.2⟩) hP
      rw [← q4]
      exact key.2
  · obtain ⟨P, p1, p2⟩ := obF_in hg hX n 0 (1 * 2 ^ X) (fun y hy => ⟨idn n, inG_id, by rw [idn_im h7, if_pos hX]; exact (hb0 y).mp hy⟩) y hy
    have hPM := inG_PM h7 hg p1
    have hl := nu_lt h1 h7 hPM
    exact (orF_bit iv X (fac n) 0 0 y).mpr (Or.inr ⟨nu n P, Nat.zero_le _, by omega, (FP_nu h1 h7 hF hPM).mpr ((hG P).mpr p1), by rw [pe_nu h1 h7 hPM]; exact p2⟩)
end ORB
end

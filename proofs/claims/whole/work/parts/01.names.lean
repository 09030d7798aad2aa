-- ===== PART A: goes FIRST, ahead of the names: the tables' words, and 'selects' of the private methods out of them =====
/-- a private method of a class that the tables say can be made, by its rows of tables_1 -/
def lw_okq (q : MethodName × Nat) : Prop := (q.1.cls ≠ "java/lang/invoke/MethodHandle" ∧ q.1.cls ≠ "java/lang/invoke/VarHandle") ∧ Cond.instantiable q.1.cls q.2 ∈ tables_1 ∧ Cond.privateMethod q.1 ∈ tables_1 ∧ Cond.instanceMethod q.1 ∈ tables_1
theorem lw_p0 : lw_okq (⟨"RulePrices", "markChanged", "()V"⟩, 7) := ⟨⟨by decide +kernel, by decide +kernel⟩, List.mem_of_getElem? (i := 11) (by decide +kernel), List.mem_of_getElem? (i := 213) (by decide +kernel), List.mem_of_getElem? (i := 214) (by decide +kernel)⟩
theorem lw_p1 : lw_okq (⟨"RulePrices", "isThing", "(I)Z"⟩, 7) := ⟨⟨by decide +kernel, by decide +kernel⟩, List.mem_of_getElem? (i := 11) (by decide +kernel), List.mem_of_getElem? (i := 228) (by decide +kernel), List.mem_of_getElem? (i := 229) (by decide +kernel)⟩
theorem lw_p2 : lw_okq (⟨"RulePrices", "isRule", "(I)Z"⟩, 7) := ⟨⟨by decide +kernel, by decide +kernel⟩, List.mem_of_getElem? (i := 11) (by decide +kernel), List.mem_of_getElem? (i := 244) (by decide +kernel), List.mem_of_getElem? (i := 245) (by decide +kernel)⟩
theorem lw_p3 : lw_okq (⟨"RulePrices", "replace", "([III)I"⟩, 7) := ⟨⟨by decide +kernel, by decide +kernel⟩, List.mem_of_getElem? (i := 11) (by decide +kernel), List.mem_of_getElem? (i := 248) (by decide +kernel), List.mem_of_getElem? (i := 249) (by decide +kernel)⟩
theorem lw_p4 : lw_okq (⟨"RulePrices", "freshSurvey", "()LRulePrices$Survey;"⟩, 7) := ⟨⟨by decide +kernel, by decide +kernel⟩, List.mem_of_getElem? (i := 11) (by decide +kernel), List.mem_of_getElem? (i := 264) (by decide +kernel), List.mem_of_getElem? (i := 265) (by decide +kernel)⟩
theorem lw_p5 : lw_okq (⟨"RulePrices$Survey", "lookAt", "(LRulePrices$Walk;)V"⟩, 9) := ⟨⟨by decide +kernel, by decide +kernel⟩, List.mem_of_getElem? (i := 111) (by decide +kernel), List.mem_of_getElem? (i := 285) (by decide +kernel), List.mem_of_getElem? (i := 286) (by decide +kernel)⟩
theorem lw_p6 : lw_okq (⟨"RulePrices$Walk", "load", "(I)I"⟩, 6) := ⟨⟨by decide +kernel, by decide +kernel⟩, List.mem_of_getElem? (i := 19) (by decide +kernel), List.mem_of_getElem? (i := 293) (by decide +kernel), List.mem_of_getElem? (i := 294) (by decide +kernel)⟩
theorem lw_p7 : lw_okq (⟨"RulePrices$Survey", "noteFitting", "([II)V"⟩, 9) := ⟨⟨by decide +kernel, by decide +kernel⟩, List.mem_of_getElem? (i := 111) (by decide +kernel), List.mem_of_getElem? (i := 301) (by decide +kernel), List.mem_of_getElem? (i := 302) (by decide +kernel)⟩
theorem lw_p8 : lw_okq (⟨"RulePrices$Survey", "noteBetter", "([II)V"⟩, 9) := ⟨⟨by decide +kernel, by decide +kernel⟩, List.mem_of_getElem? (i := 111) (by decide +kernel), List.mem_of_getElem? (i := 308) (by decide +kernel), List.mem_of_getElem? (i := 309) (by decide +kernel)⟩
theorem lw_p9 : lw_okq (⟨"RulePrices$Survey", "noteEqual", "([I)V"⟩, 9) := ⟨⟨by decide +kernel, by decide +kernel⟩, List.mem_of_getElem? (i := 111) (by decide +kernel), List.mem_of_getElem? (i := 312) (by decide +kernel), List.mem_of_getElem? (i := 313) (by decide +kernel)⟩
theorem lw_p10 : lw_okq (⟨"RulePrices$Walk", "shift", "(II)V"⟩, 6) := ⟨⟨by decide +kernel, by decide +kernel⟩, List.mem_of_getElem? (i := 19) (by decide +kernel), List.mem_of_getElem? (i := 320) (by decide +kernel), List.mem_of_getElem? (i := 321) (by decide +kernel)⟩
theorem lw_p11 : lw_okq (⟨"RulePrices$Survey", "restWith", "(III)I"⟩, 9) := ⟨⟨by decide +kernel, by decide +kernel⟩, List.mem_of_getElem? (i := 111) (by decide +kernel), List.mem_of_getElem? (i := 394) (by decide +kernel), List.mem_of_getElem? (i := 395) (by decide +kernel)⟩
theorem lw_p12 : lw_okq (⟨"RulePrices", "freshCorners", "()LRulePrices$Corners;"⟩, 7) := ⟨⟨by decide +kernel, by decide +kernel⟩, List.mem_of_getElem? (i := 11) (by decide +kernel), List.mem_of_getElem? (i := 427) (by decide +kernel), List.mem_of_getElem? (i := 428) (by decide +kernel)⟩
theorem lw_p13 : lw_okq (⟨"RulePrices$Corners", "tryCorner", "(LRulePrices$Book;II)V"⟩, 6) := ⟨⟨by decide +kernel, by decide +kernel⟩, List.mem_of_getElem? (i := 151) (by decide +kernel), List.mem_of_getElem? (i := 445) (by decide +kernel), List.mem_of_getElem? (i := 446) (by decide +kernel)⟩
theorem lw_p14 : lw_okq (⟨"RulePrices$Corners", "writeEquations", "(LRulePrices$Book;II)V"⟩, 6) := ⟨⟨by decide +kernel, by decide +kernel⟩, List.mem_of_getElem? (i := 151) (by decide +kernel), List.mem_of_getElem? (i := 455) (by decide +kernel), List.mem_of_getElem? (i := 456) (by decide +kernel)⟩
theorem lw_p15 : lw_okq (⟨"RulePrices$Corners", "writePrices", "(IIJ)Z"⟩, 6) := ⟨⟨by decide +kernel, by decide +kernel⟩, List.mem_of_getElem? (i := 151) (by decide +kernel), List.mem_of_getElem? (i := 462) (by decide +kernel), List.mem_of_getElem? (i := 463) (by decide +kernel)⟩
def lw_privs_1 : List (MethodName × Nat) := [(⟨"RulePrices", "markChanged", "()V"⟩, 7), (⟨"RulePrices", "isThing", "(I)Z"⟩, 7), (⟨"RulePrices", "isRule", "(I)Z"⟩, 7), (⟨"RulePrices", "replace", "([III)I"⟩, 7), (⟨"RulePrices", "freshSurvey", "()LRulePrices$Survey;"⟩, 7), (⟨"RulePrices$Survey", "lookAt", "(LRulePrices$Walk;)V"⟩, 9), (⟨"RulePrices$Walk", "load", "(I)I"⟩, 6), (⟨"RulePrices$Survey", "noteFitting", "([II)V"⟩, 9), (⟨"RulePrices$Survey", "noteBetter", "([II)V"⟩, 9), (⟨"RulePrices$Survey", "noteEqual", "([I)V"⟩, 9), (⟨"RulePrices$Walk", "shift", "(II)V"⟩, 6), (⟨"RulePrices$Survey", "restWith", "(III)I"⟩, 9), (⟨"RulePrices", "freshCorners", "()LRulePrices$Corners;"⟩, 7), (⟨"RulePrices$Corners", "tryCorner", "(LRulePrices$Book;II)V"⟩, 6), (⟨"RulePrices$Corners", "writeEquations", "(LRulePrices$Book;II)V"⟩, 6), (⟨"RulePrices$Corners", "writePrices", "(IIJ)Z"⟩, 6)]
theorem lw_r1 : ∀ q ∈ lw_privs_1, lw_okq q := List.forall_mem_cons.mpr ⟨lw_p0, List.forall_mem_cons.mpr ⟨lw_p1, List.forall_mem_cons.mpr ⟨lw_p2, List.forall_mem_cons.mpr ⟨lw_p3, List.forall_mem_cons.mpr ⟨lw_p4, List.forall_mem_cons.mpr ⟨lw_p5, List.forall_mem_cons.mpr ⟨lw_p6, List.forall_mem_cons.mpr ⟨lw_p7, List.forall_mem_cons.mpr ⟨lw_p8, List.forall_mem_cons.mpr ⟨lw_p9, List.forall_mem_cons.mpr ⟨lw_p10, List.forall_mem_cons.mpr ⟨lw_p11, List.forall_mem_cons.mpr ⟨lw_p12, List.forall_mem_cons.mpr ⟨lw_p13, List.forall_mem_cons.mpr ⟨lw_p14, List.forall_mem_cons.mpr ⟨lw_p15, fun _ h => absurd h List.not_mem_nil⟩⟩⟩⟩⟩⟩⟩⟩⟩⟩⟩⟩⟩⟩⟩⟩
theorem lw_p16 : lw_okq (⟨"RulePrices$Corners", "swapDues", "(II)V"⟩, 6) := ⟨⟨by decide +kernel, by decide +kernel⟩, List.mem_of_getElem? (i := 151) (by decide +kernel), List.mem_of_getElem? (i := 466) (by decide +kernel), List.mem_of_getElem? (i := 467) (by decide +kernel)⟩
theorem lw_p17 : lw_okq (⟨"RulePrices$Corners", "boundAt", "(LRulePrices$Book;I)J"⟩, 6) := ⟨⟨by decide +kernel, by decide +kernel⟩, List.mem_of_getElem? (i := 151) (by decide +kernel), List.mem_of_getElem? (i := 473) (by decide +kernel), List.mem_of_getElem? (i := 474) (by decide +kernel)⟩
theorem lw_p18 : lw_okq (⟨"RulePrices$Corners", "boundAbove", "(II)J"⟩, 6) := ⟨⟨by decide +kernel, by decide +kernel⟩, List.mem_of_getElem? (i := 151) (by decide +kernel), List.mem_of_getElem? (i := 488) (by decide +kernel), List.mem_of_getElem? (i := 489) (by decide +kernel)⟩
theorem lw_p19 : lw_okq (⟨"RulePrices$Corners", "slopeBelow", "(III)J"⟩, 6) := ⟨⟨by decide +kernel, by decide +kernel⟩, List.mem_of_getElem? (i := 151) (by decide +kernel), List.mem_of_getElem? (i := 508) (by decide +kernel), List.mem_of_getElem? (i := 509) (by decide +kernel)⟩
theorem lw_p20 : lw_okq (⟨"RulePrices", "toldCount", "(I)I"⟩, 7) := ⟨⟨by decide +kernel, by decide +kernel⟩, List.mem_of_getElem? (i := 11) (by decide +kernel), List.mem_of_getElem? (i := 533) (by decide +kernel), List.mem_of_getElem? (i := 534) (by decide +kernel)⟩
theorem lw_p21 : lw_okq (⟨"RulePricesModel", "isThing", "(I)Z"⟩, 31) := ⟨⟨by decide +kernel, by decide +kernel⟩, List.mem_of_getElem? (i := 541) (by decide +kernel), List.mem_of_getElem? (i := 662) (by decide +kernel), List.mem_of_getElem? (i := 663) (by decide +kernel)⟩
theorem lw_p22 : lw_okq (⟨"RulePricesModel", "isRule", "(I)Z"⟩, 31) := ⟨⟨by decide +kernel, by decide +kernel⟩, List.mem_of_getElem? (i := 541) (by decide +kernel), List.mem_of_getElem? (i := 670) (by decide +kernel), List.mem_of_getElem? (i := 671) (by decide +kernel)⟩
theorem lw_p23 : lw_okq (⟨"RulePricesModel", "look", "(II)V"⟩, 31) := ⟨⟨by decide +kernel, by decide +kernel⟩, List.mem_of_getElem? (i := 541) (by decide +kernel), List.mem_of_getElem? (i := 688) (by decide +kernel), List.mem_of_getElem? (i := 689) (by decide +kernel)⟩
theorem lw_p24 : lw_okq (⟨"RulePricesModel", "fits", "([I)Z"⟩, 31) := ⟨⟨by decide +kernel, by decide +kernel⟩, List.mem_of_getElem? (i := 541) (by decide +kernel), List.mem_of_getElem? (i := 692) (by decide +kernel), List.mem_of_getElem? (i := 693) (by decide +kernel)⟩
theorem lw_p25 : lw_okq (⟨"RulePricesModel", "isAs", "(I[I)Z"⟩, 31) := ⟨⟨by decide +kernel, by decide +kernel⟩, List.mem_of_getElem? (i := 541) (by decide +kernel), List.mem_of_getElem? (i := 696) (by decide +kernel), List.mem_of_getElem? (i := 697) (by decide +kernel)⟩
theorem lw_p26 : lw_okq (⟨"RulePricesModel", "take", "()V"⟩, 31) := ⟨⟨by decide +kernel, by decide +kernel⟩, List.mem_of_getElem? (i := 541) (by decide +kernel), List.mem_of_getElem? (i := 700) (by decide +kernel), List.mem_of_getElem? (i := 701) (by decide +kernel)⟩
theorem lw_p27 : lw_okq (⟨"RulePricesModel", "valueOf", "([I)I"⟩, 31) := ⟨⟨by decide +kernel, by decide +kernel⟩, List.mem_of_getElem? (i := 541) (by decide +kernel), List.mem_of_getElem? (i := 704) (by decide +kernel), List.mem_of_getElem? (i := 705) (by decide +kernel)⟩
theorem lw_p28 : lw_okq (⟨"RulePricesModel", "shares", "(I)V"⟩, 31) := ⟨⟨by decide +kernel, by decide +kernel⟩, List.mem_of_getElem? (i := 541) (by decide +kernel), List.mem_of_getElem? (i := 765) (by decide +kernel), List.mem_of_getElem? (i := 766) (by decide +kernel)⟩
theorem lw_p29 : lw_okq (⟨"RulePricesModel", "rowsNow", "()V"⟩, 31) := ⟨⟨by decide +kernel, by decide +kernel⟩, List.mem_of_getElem? (i := 541) (by decide +kernel), List.mem_of_getElem? (i := 769) (by decide +kernel), List.mem_of_getElem? (i := 770) (by decide +kernel)⟩
theorem lw_p30 : lw_okq (⟨"RulePricesModel", "addRow", "(II)V"⟩, 31) := ⟨⟨by decide +kernel, by decide +kernel⟩, List.mem_of_getElem? (i := 541) (by decide +kernel), List.mem_of_getElem? (i := 773) (by decide +kernel), List.mem_of_getElem? (i := 774) (by decide +kernel)⟩
theorem lw_p31 : lw_okq (⟨"RulePricesModel", "isPriced", "(II)Z"⟩, 31) := ⟨⟨by decide +kernel, by decide +kernel⟩, List.mem_of_getElem? (i := 541) (by decide +kernel), List.mem_of_getElem? (i := 777) (by decide +kernel), List.mem_of_getElem? (i := 778) (by decide +kernel)⟩
def lw_privs_2 : List (MethodName × Nat) := [(⟨"RulePrices$Corners", "swapDues", "(II)V"⟩, 6), (⟨"RulePrices$Corners", "boundAt", "(LRulePrices$Book;I)J"⟩, 6), (⟨"RulePrices$Corners", "boundAbove", "(II)J"⟩, 6), (⟨"RulePrices$Corners", "slopeBelow", "(III)J"⟩, 6), (⟨"RulePrices", "toldCount", "(I)I"⟩, 7), (⟨"RulePricesModel", "isThing", "(I)Z"⟩, 31), (⟨"RulePricesModel", "isRule", "(I)Z"⟩, 31), (⟨"RulePricesModel", "look", "(II)V"⟩, 31), (⟨"RulePricesModel", "fits", "([I)Z"⟩, 31), (⟨"RulePricesModel", "isAs", "(I[I)Z"⟩, 31), (⟨"RulePricesModel", "take", "()V"⟩, 31), (⟨"RulePricesModel", "valueOf", "([I)I"⟩, 31), (⟨"RulePricesModel", "shares", "(I)V"⟩, 31), (⟨"RulePricesModel", "rowsNow", "()V"⟩, 31), (⟨"RulePricesModel", "addRow", "(II)V"⟩, 31), (⟨"RulePricesModel", "isPriced", "(II)Z"⟩, 31)]
theorem lw_r2 : ∀ q ∈ lw_privs_2, lw_okq q := List.forall_mem_cons.mpr ⟨lw_p16, List.forall_mem_cons.mpr ⟨lw_p17, List.forall_mem_cons.mpr ⟨lw_p18, List.forall_mem_cons.mpr ⟨lw_p19, List.forall_mem_cons.mpr ⟨lw_p20, List.forall_mem_cons.mpr ⟨lw_p21, List.forall_mem_cons.mpr ⟨lw_p22, List.forall_mem_cons.mpr ⟨lw_p23, List.forall_mem_cons.mpr ⟨lw_p24, List.forall_mem_cons.mpr ⟨lw_p25, List.forall_mem_cons.mpr ⟨lw_p26, List.forall_mem_cons.mpr ⟨lw_p27, List.forall_mem_cons.mpr ⟨lw_p28, List.forall_mem_cons.mpr ⟨lw_p29, List.forall_mem_cons.mpr ⟨lw_p30, List.forall_mem_cons.mpr ⟨lw_p31, fun _ h => absurd h List.not_mem_nil⟩⟩⟩⟩⟩⟩⟩⟩⟩⟩⟩⟩⟩⟩⟩⟩
theorem lw_p32 : lw_okq (⟨"RulePricesModel", "determinant", "(I)J"⟩, 31) := ⟨⟨by decide +kernel, by decide +kernel⟩, List.mem_of_getElem? (i := 541) (by decide +kernel), List.mem_of_getElem? (i := 781) (by decide +kernel), List.mem_of_getElem? (i := 782) (by decide +kernel)⟩
theorem lw_p33 : lw_okq (⟨"RulePricesModel", "isPrice", "(I)Z"⟩, 31) := ⟨⟨by decide +kernel, by decide +kernel⟩, List.mem_of_getElem? (i := 541) (by decide +kernel), List.mem_of_getElem? (i := 792) (by decide +kernel), List.mem_of_getElem? (i := 793) (by decide +kernel)⟩
def lw_privs_3 : List (MethodName × Nat) := [(⟨"RulePricesModel", "determinant", "(I)J"⟩, 31), (⟨"RulePricesModel", "isPrice", "(I)Z"⟩, 31)]
theorem lw_r3 : ∀ q ∈ lw_privs_3, lw_okq q := List.forall_mem_cons.mpr ⟨lw_p32, List.forall_mem_cons.mpr ⟨lw_p33, fun _ h => absurd h List.not_mem_nil⟩⟩
def lw_privs : List (MethodName × Nat) := lw_privs_1 ++ (lw_privs_2 ++ (lw_privs_3))
def lw_tbl : List Cond := k2_sels lw_privs ++ tables_1
theorem lw_privs_ok : ∀ q ∈ lw_privs, lw_okq q := by
  show ∀ q ∈ lw_privs_1 ++ (lw_privs_2 ++ (lw_privs_3)), lw_okq q
  exact List.forall_mem_append.mpr ⟨lw_r1, List.forall_mem_append.mpr ⟨lw_r2, lw_r3⟩⟩

/-! ===== BEGIN words of one list among another's, by their places ===== -/
theorem goodIn_r {big : List Cond} (ws : List Cond) (ps : List Nat) (hp : ws = ps.filterMap (fun i => big[i]?)) (h : ws.all goodWord = true) : GoodIn big ws := by
  intro w hw
  have h1 := List.all_eq_true.mp h w hw
  rw [hp] at hw
  obtain ⟨i, -, hi⟩ := List.mem_filterMap.mp hw
  have hm : w ∈ big := by first | exact List.mem_of_getElem? hi | exact List.getElem?_mem hi
  exact ⟨hm, good_of_word h1⟩
theorem goodIn_app {big a b : List Cond} (ha : GoodIn big a) (hb : GoodIn big b) : GoodIn big (a ++ b) := fun w h => (List.mem_append.mp h).elim (ha w) (hb w)
theorem goodIn_ca {big a b : List Cond} {c : Cond} (ha : GoodIn big (c :: a)) (hb : GoodIn big b) : GoodIn big (c :: (a ++ b)) := fun w h => (List.mem_cons.mp h).elim (fun e => ha w (List.mem_cons.mpr (Or.inl e))) (fun h => (List.mem_append.mp h).elim (fun h => ha w (List.mem_cons.mpr (Or.inr h))) (hb w))
theorem goodIn_sub {big ws : List Cond} (hm : ∀ w ∈ ws, w ∈ big) (h : ws.all goodWord = true) : GoodIn big ws := fun w hw => ⟨hm w hw, good_of_word (List.all_eq_true.mp h w hw)⟩
/-! ===== END ===== -/

/-! ===== BEGIN printed: names, fields, word lists, decode rows ===== -/
def RX0 : String := "RulePrices$Book"
def TX0 : u_T := fun k => match k with
  | 0 => ("RulePrices$Book", "things", "I", false)
  | 1 => ("RulePrices$Book", "rules", "I", false)
  | 2 => ("RulePrices$Book", "worths", "[I", true)
  | 3 => ("RulePrices$Book", "mosts", "[I", true)
  | 4 => ("RulePrices$Book", "kinds", "[I", true)
  | 5 => ("RulePrices$Book", "lefts", "[I", true)
  | 6 => ("RulePrices$Book", "rights", "[I", true)
  | 7 => ("RulePrices$Book", "limits", "[I", true)
  | 8 => ("RulePrices$Book", "ons", "[Z", true)
  | _ => ("RulePrices$Book", "factors", "[I", true)
def tyX0 : Nat → FieldType := fun k => match k with
  | 0 => .int
  | 1 => .int
  | 2 => .array .int
  | 3 => .array .int
  | 4 => .array .int
  | 5 => .array .int
  | 6 => .array .int
  | 7 => .array .int
  | 8 => .array .boolean
  | _ => .array .int
abbrev wsX00 : List Cond := u_ws RX0 TX0 10
theorem nmX0 : ∀ a, a < 10 → ∀ b, b < 10 → a ≠ b → (TX0 a).2.1 ≠ (TX0 b).2.1 := by decide +kernel
theorem tyX0_ok : ∀ k, k < 10 → parseFieldDescriptor (TX0 k).2.2.1 = some (tyX0 k) := by decide +kernel
abbrev cX0_init : ByteArray := prog_2_method_1_code
def yX0_init : MethodName := ⟨RX0, "<init>", "()V"⟩
abbrev cX0_addThing : ByteArray := prog_2_method_2_code
def yX0_addThing : MethodName := ⟨RX0, "addThing", "(II)I"⟩
abbrev cX0_addRule : ByteArray := prog_2_method_3_code
def yX0_addRule : MethodName := ⟨RX0, "addRule", "(II)I"⟩
abbrev cX0_pair : ByteArray := prog_2_method_4_code
def yX0_pair : MethodName := ⟨RX0, "pair", "(III)V"⟩
abbrev cX0_rulesOn : ByteArray := prog_2_method_5_code
def yX0_rulesOn : MethodName := ⟨RX0, "rulesOn", "()I"⟩
abbrev cX0_countsForShares : ByteArray := prog_2_method_6_code
def yX0_countsForShares : MethodName := ⟨RX0, "countsForShares", "(I)Z"⟩
def RX1 : String := "RulePrices$Corners"
def TX1 : u_T := fun k => match k with
  | 0 => ("RulePrices$Corners", "size", "I", false)
  | 1 => ("RulePrices$Corners", "tops", "[J", true)
  | 2 => ("RulePrices$Corners", "belows", "[J", true)
  | 3 => ("RulePrices$Corners", "slopes", "[J", true)
  | 4 => ("RulePrices$Corners", "cells", "[J", true)
  | _ => ("RulePrices$Corners", "dues", "[J", true)
def tyX1 : Nat → FieldType := fun k => match k with
  | 0 => .int
  | 1 => .array .long
  | 2 => .array .long
  | 3 => .array .long
  | 4 => .array .long
  | _ => .array .long
abbrev wsX10 : List Cond := u_ws RX1 TX1 6
theorem nmX1 : ∀ a, a < 6 → ∀ b, b < 6 → a ≠ b → (TX1 a).2.1 ≠ (TX1 b).2.1 := by decide +kernel
theorem tyX1_ok : ∀ k, k < 6 → parseFieldDescriptor (TX1 k).2.2.1 = some (tyX1 k) := by decide +kernel
abbrev cX1_init : ByteArray := prog_3_method_1_code
def yX1_init : MethodName := ⟨RX1, "<init>", "()V"⟩
abbrev cX1_find : ByteArray := prog_3_method_2_code
def yX1_find : MethodName := ⟨RX1, "find", "(LRulePrices$Book;)V"⟩
abbrev cX1_allCount : ByteArray := prog_3_method_3_code
def yX1_allCount : MethodName := ⟨RX1, "allCount", "(LRulePrices$Book;I)Z"⟩
abbrev cX1_has : ByteArray := prog_3_method_4_code
def yX1_has : MethodName := ⟨RX1, "has", "(II)Z"⟩
abbrev cX1_writeEquations : ByteArray := prog_3_method_5_code
def yX1_writeEquations : MethodName := ⟨RX1, "writeEquations", "(LRulePrices$Book;II)V"⟩
abbrev cX1_tryCorner : ByteArray := prog_3_method_6_code
def yX1_tryCorner : MethodName := ⟨RX1, "tryCorner", "(LRulePrices$Book;II)V"⟩
abbrev cX1_writePrices : ByteArray := prog_3_method_7_code
def yX1_writePrices : MethodName := ⟨RX1, "writePrices", "(IIJ)Z"⟩
abbrev cX1_swapDues : ByteArray := prog_3_method_8_code
def yX1_swapDues : MethodName := ⟨RX1, "swapDues", "(II)V"⟩
abbrev cX1_determinant : ByteArray := prog_3_method_9_code
def yX1_determinant : MethodName := ⟨RX1, "determinant", "([JIII)J"⟩
abbrev cX1_boundAt : ByteArray := prog_3_method_10_code
def yX1_boundAt : MethodName := ⟨RX1, "boundAt", "(LRulePrices$Book;I)J"⟩
abbrev cX1_slope : ByteArray := prog_3_method_11_code
def yX1_slope : MethodName := ⟨RX1, "slope", "(II)J"⟩
abbrev cX1_leastBound : ByteArray := prog_3_method_12_code
def yX1_leastBound : MethodName := ⟨RX1, "leastBound", "()I"⟩
abbrev cX1_leastBoundFlattest : ByteArray := prog_3_method_13_code
def yX1_leastBoundFlattest : MethodName := ⟨RX1, "leastBoundFlattest", "(I)I"⟩
abbrev cX1_reach : ByteArray := prog_3_method_14_code
def yX1_reach : MethodName := ⟨RX1, "reach", "(II)I"⟩
abbrev cX1_boundAbove : ByteArray := prog_3_method_15_code
def yX1_boundAbove : MethodName := ⟨RX1, "boundAbove", "(II)J"⟩
abbrev cX1_slopeBelow : ByteArray := prog_3_method_16_code
def yX1_slopeBelow : MethodName := ⟨RX1, "slopeBelow", "(III)J"⟩
def RX2 : String := "RulePrices$Survey"
def TX2 : u_T := fun k => match k with
  | 0 => ("RulePrices$Survey", "things", "I", false)
  | 1 => ("RulePrices$Survey", "all", "I", false)
  | 2 => ("RulePrices$Survey", "fitting", "I", false)
  | 3 => ("RulePrices$Survey", "best", "I", false)
  | 4 => ("RulePrices$Survey", "greatest", "I", false)
  | 5 => ("RulePrices$Survey", "firstBest", "[I", true)
  | 6 => ("RulePrices$Survey", "isFast", "[Z", true)
  | 7 => ("RulePrices$Survey", "withCount", "[I", true)
  | _ => ("RulePrices$Survey", "forbiddenBy", "[I", true)
def tyX2 : Nat → FieldType := fun k => match k with
  | 0 => .int
  | 1 => .int
  | 2 => .int
  | 3 => .int
  | 4 => .int
  | 5 => .array .int
  | 6 => .array .boolean
  | 7 => .array .int
  | _ => .array .int
abbrev wsX20 : List Cond := u_ws RX2 TX2 9
theorem nmX2 : ∀ a, a < 9 → ∀ b, b < 9 → a ≠ b → (TX2 a).2.1 ≠ (TX2 b).2.1 := by decide +kernel
theorem tyX2_ok : ∀ k, k < 9 → parseFieldDescriptor (TX2 k).2.2.1 = some (tyX2 k) := by decide +kernel
abbrev cX2_init : ByteArray := prog_4_method_1_code
def yX2_init : MethodName := ⟨RX2, "<init>", "()V"⟩
abbrev cX2_lookAtAll : ByteArray := prog_4_method_2_code
def yX2_lookAtAll : MethodName := ⟨RX2, "lookAtAll", "(LRulePrices$Walk;I)V"⟩
abbrev cX2_lookAt : ByteArray := prog_4_method_3_code
def yX2_lookAt : MethodName := ⟨RX2, "lookAt", "(LRulePrices$Walk;)V"⟩
abbrev cX2_noteFitting : ByteArray := prog_4_method_4_code
def yX2_noteFitting : MethodName := ⟨RX2, "noteFitting", "([II)V"⟩
abbrev cX2_noteBetter : ByteArray := prog_4_method_5_code
def yX2_noteBetter : MethodName := ⟨RX2, "noteBetter", "([II)V"⟩
abbrev cX2_noteEqual : ByteArray := prog_4_method_6_code
def yX2_noteEqual : MethodName := ⟨RX2, "noteEqual", "([I)V"⟩
abbrev cX2_greatestWith : ByteArray := prog_4_method_7_code
def yX2_greatestWith : MethodName := ⟨RX2, "greatestWith", "(II)I"⟩
abbrev cX2_gainWithout : ByteArray := prog_4_method_8_code
def yX2_gainWithout : MethodName := ⟨RX2, "gainWithout", "(I)I"⟩
abbrev cX2_rulesAhead : ByteArray := prog_4_method_9_code
def yX2_rulesAhead : MethodName := ⟨RX2, "rulesAhead", "(II)I"⟩
abbrev cX2_spanBottom : ByteArray := prog_4_method_10_code
def yX2_spanBottom : MethodName := ⟨RX2, "spanBottom", "(II)I"⟩
abbrev cX2_spanTop : ByteArray := prog_4_method_11_code
def yX2_spanTop : MethodName := ⟨RX2, "spanTop", "(II)I"⟩
abbrev cX2_restWith : ByteArray := prog_4_method_12_code
def yX2_restWith : MethodName := ⟨RX2, "restWith", "(III)I"⟩
def RX3 : String := "RulePrices$Walk"
def TX3 : u_T := fun k => match k with
  | 0 => ("RulePrices$Walk", "book", "LRulePrices$Book;", true)
  | 1 => ("RulePrices$Walk", "limits", "[I", true)
  | 2 => ("RulePrices$Walk", "mosts", "[I", true)
  | 3 => ("RulePrices$Walk", "loads", "[I", true)
  | 4 => ("RulePrices$Walk", "counts", "[I", true)
  | _ => ("RulePrices$Walk", "sum", "I", false)
def tyX3 : Nat → FieldType := fun k => match k with
  | 0 => .object "RulePrices$Book"
  | 1 => .array .int
  | 2 => .array .int
  | 3 => .array .int
  | 4 => .array .int
  | _ => .int
abbrev wsX30 : List Cond := u_ws RX3 TX3 6
theorem nmX3 : ∀ a, a < 6 → ∀ b, b < 6 → a ≠ b → (TX3 a).2.1 ≠ (TX3 b).2.1 := by decide +kernel
theorem tyX3_ok : ∀ k, k < 6 → parseFieldDescriptor (TX3 k).2.2.1 = some (tyX3 k) := by decide +kernel
abbrev cX3_init : ByteArray := prog_5_method_1_code
def yX3_init : MethodName := ⟨RX3, "<init>", "()V"⟩
abbrev cX3_begin : ByteArray := prog_5_method_2_code
def yX3_begin : MethodName := ⟨RX3, "begin", "()V"⟩
abbrev cX3_loosen : ByteArray := prog_5_method_3_code
def yX3_loosen : MethodName := ⟨RX3, "loosen", "(II)V"⟩
abbrev cX3_allowOneMore : ByteArray := prog_5_method_4_code
def yX3_allowOneMore : MethodName := ⟨RX3, "allowOneMore", "(I)V"⟩
abbrev cX3_goTo : ByteArray := prog_5_method_5_code
def yX3_goTo : MethodName := ⟨RX3, "goTo", "([I)V"⟩
abbrev cX3_plans : ByteArray := prog_5_method_6_code
def yX3_plans : MethodName := ⟨RX3, "plans", "()I"⟩
abbrev cX3_step : ByteArray := prog_5_method_7_code
def yX3_step : MethodName := ⟨RX3, "step", "()V"⟩
abbrev cX3_shift : ByteArray := prog_5_method_8_code
def yX3_shift : MethodName := ⟨RX3, "shift", "(II)V"⟩
abbrev cX3_firstOver : ByteArray := prog_5_method_9_code
def yX3_firstOver : MethodName := ⟨RX3, "firstOver", "(I)I"⟩
abbrev cX3_load : ByteArray := prog_5_method_10_code
def yX3_load : MethodName := ⟨RX3, "load", "(I)I"⟩
abbrev cX3_greatestFitting : ByteArray := prog_5_method_11_code
def yX3_greatestFitting : MethodName := ⟨RX3, "greatestFitting", "()I"⟩
def RX4 : String := "RulePrices"
def TX4 : u_T := fun k => match k with
  | 0 => ("RulePrices", "walk", "LRulePrices$Walk;", true)
  | 1 => ("RulePrices", "book", "LRulePrices$Book;", true)
  | 2 => ("RulePrices", "survey", "LRulePrices$Survey;", true)
  | 3 => ("RulePrices", "corners", "LRulePrices$Corners;", true)
  | 4 => ("RulePrices", "putCounts", "[I", true)
  | 5 => ("RulePrices", "surveyIsFresh", "Z", false)
  | _ => ("RulePrices", "cornersAreFresh", "Z", false)
def tyX4 : Nat → FieldType := fun k => match k with
  | 0 => .object "RulePrices$Walk"
  | 1 => .object "RulePrices$Book"
  | 2 => .object "RulePrices$Survey"
  | 3 => .object "RulePrices$Corners"
  | 4 => .array .int
  | 5 => .boolean
  | _ => .boolean
abbrev wsX40 : List Cond := u_ws RX4 TX4 7
theorem nmX4 : ∀ a, a < 7 → ∀ b, b < 7 → a ≠ b → (TX4 a).2.1 ≠ (TX4 b).2.1 := by decide +kernel
theorem tyX4_ok : ∀ k, k < 7 → parseFieldDescriptor (TX4 k).2.2.1 = some (tyX4 k) := by decide +kernel
abbrev cX4_init : ByteArray := prog_1_method_1_code
def yX4_init : MethodName := ⟨RX4, "<init>", "()V"⟩
abbrev cX4_thing : ByteArray := prog_1_method_2_code
def yX4_thing : MethodName := ⟨RX4, "thing", "(II)I"⟩
abbrev cX4_rule : ByteArray := prog_1_method_3_code
def yX4_rule : MethodName := ⟨RX4, "rule", "(IIII)I"⟩
abbrev cX4_amount : ByteArray := prog_1_method_4_code
def yX4_amount : MethodName := ⟨RX4, "amount", "(III)I"⟩
abbrev cX4_on : ByteArray := prog_1_method_5_code
def yX4_on : MethodName := ⟨RX4, "on", "(IZ)I"⟩
abbrev cX4_set : ByteArray := prog_1_method_6_code
def yX4_set : MethodName := ⟨RX4, "set", "(III)I"⟩
abbrev cX4_value : ByteArray := prog_1_method_7_code
def yX4_value : MethodName := ⟨RX4, "value", "()I"⟩
abbrev cX4_counted : ByteArray := prog_1_method_8_code
def yX4_counted : MethodName := ⟨RX4, "counted", "(I)I"⟩
abbrev cX4_first : ByteArray := prog_1_method_9_code
def yX4_first : MethodName := ⟨RX4, "first", "(I)I"⟩
abbrev cX4_fast : ByteArray := prog_1_method_10_code
def yX4_fast : MethodName := ⟨RX4, "fast", "(I)I"⟩
abbrev cX4_price : ByteArray := prog_1_method_11_code
def yX4_price : MethodName := ⟨RX4, "price", "(II)I"⟩
abbrev cX4_weight : ByteArray := prog_1_method_12_code
def yX4_weight : MethodName := ⟨RX4, "weight", "(I)I"⟩
abbrev cX4_rank : ByteArray := prog_1_method_13_code
def yX4_rank : MethodName := ⟨RX4, "rank", "(I)I"⟩
abbrev cX4_more : ByteArray := prog_1_method_14_code
def yX4_more : MethodName := ⟨RX4, "more", "(I)I"⟩
abbrev cX4_must : ByteArray := prog_1_method_15_code
def yX4_must : MethodName := ⟨RX4, "must", "(II)I"⟩
abbrev cX4_span : ByteArray := prog_1_method_16_code
def yX4_span : MethodName := ⟨RX4, "span", "(IZ)I"⟩
abbrev cX4_put : ByteArray := prog_1_method_17_code
def yX4_put : MethodName := ⟨RX4, "put", "(II)I"⟩
abbrev cX4_worth : ByteArray := prog_1_method_18_code
def yX4_worth : MethodName := ⟨RX4, "worth", "()I"⟩
abbrev cX4_broken : ByteArray := prog_1_method_19_code
def yX4_broken : MethodName := ⟨RX4, "broken", "()I"⟩
abbrev cX4_share : ByteArray := prog_1_method_20_code
def yX4_share : MethodName := ⟨RX4, "share", "(Z)J"⟩
abbrev cX4_sharePrice : ByteArray := prog_1_method_21_code
def yX4_sharePrice : MethodName := ⟨RX4, "sharePrice", "(IZ)J"⟩
abbrev cX4_holds : ByteArray := prog_1_method_22_code
def yX4_holds : MethodName := ⟨RX4, "holds", "(I)I"⟩
abbrev cX4_gap : ByteArray := prog_1_method_23_code
def yX4_gap : MethodName := ⟨RX4, "gap", "(Z)J"⟩
abbrev cX4_told : ByteArray := prog_1_method_24_code
def yX4_told : MethodName := ⟨RX4, "told", "(I)I"⟩
abbrev cX4_toldCount : ByteArray := prog_1_method_25_code
def yX4_toldCount : MethodName := ⟨RX4, "toldCount", "(I)I"⟩
abbrev cX4_isThing : ByteArray := prog_1_method_26_code
def yX4_isThing : MethodName := ⟨RX4, "isThing", "(I)Z"⟩
abbrev cX4_isRule : ByteArray := prog_1_method_27_code
def yX4_isRule : MethodName := ⟨RX4, "isRule", "(I)Z"⟩
abbrev cX4_isWorth : ByteArray := prog_1_method_28_code
def yX4_isWorth : MethodName := ⟨RX4, "isWorth", "(I)Z"⟩
abbrev cX4_isCount : ByteArray := prog_1_method_29_code
def yX4_isCount : MethodName := ⟨RX4, "isCount", "(I)Z"⟩
abbrev cX4_isLimit : ByteArray := prog_1_method_30_code
def yX4_isLimit : MethodName := ⟨RX4, "isLimit", "(IJ)Z"⟩
abbrev cX4_replace : ByteArray := prog_1_method_31_code
def yX4_replace : MethodName := ⟨RX4, "replace", "([III)I"⟩
abbrev cX4_markChanged : ByteArray := prog_1_method_32_code
def yX4_markChanged : MethodName := ⟨RX4, "markChanged", "()V"⟩
abbrev cX4_freshSurvey : ByteArray := prog_1_method_33_code
def yX4_freshSurvey : MethodName := ⟨RX4, "freshSurvey", "()LRulePrices$Survey;"⟩
abbrev cX4_freshCorners : ByteArray := prog_1_method_34_code
def yX4_freshCorners : MethodName := ⟨RX4, "freshCorners", "()LRulePrices$Corners;"⟩
abbrev cX4_inLowestTerms : ByteArray := prog_1_method_35_code
def yX4_inLowestTerms : MethodName := ⟨RX4, "inLowestTerms", "(JJZ)J"⟩
abbrev cX4_commonDivisor : ByteArray := prog_1_method_36_code
def yX4_commonDivisor : MethodName := ⟨RX4, "commonDivisor", "(JJ)J"⟩
def RX5 : String := "RulePricesModel"
def TX5 : u_T := fun k => match k with
  | 0 => ("RulePricesModel", "things", "I", false)
  | 1 => ("RulePricesModel", "worth", "[I", true)
  | 2 => ("RulePricesModel", "most", "[I", true)
  | 3 => ("RulePricesModel", "rules", "I", false)
  | 4 => ("RulePricesModel", "kind", "[I", true)
  | 5 => ("RulePricesModel", "one", "[I", true)
  | 6 => ("RulePricesModel", "other", "[I", true)
  | 7 => ("RulePricesModel", "limit", "[I", true)
  | 8 => ("RulePricesModel", "isOn", "[Z", true)
  | 9 => ("RulePricesModel", "amount", "[I", true)
  | 10 => ("RulePricesModel", "told", "[I", true)
  | 11 => ("RulePricesModel", "now", "[I", true)
  | 12 => ("RulePricesModel", "best", "I", false)
  | 13 => ("RulePricesModel", "bestMany", "I", false)
  | 14 => ("RulePricesModel", "first", "[I", true)
  | 15 => ("RulePricesModel", "isSame", "[Z", true)
  | 16 => ("RulePricesModel", "fitMany", "I", false)
  | 17 => ("RulePricesModel", "allMany", "I", false)
  | 18 => ("RulePricesModel", "weights", "[I", true)
  | 19 => ("RulePricesModel", "rows", "I", false)
  | 20 => ("RulePricesModel", "row", "[I", true)
  | 21 => ("RulePricesModel", "bound", "[I", true)
  | 22 => ("RulePricesModel", "ruleOf", "[I", true)
  | 23 => ("RulePricesModel", "chosen", "[I", true)
  | 24 => ("RulePricesModel", "work", "[J", true)
  | 25 => ("RulePricesModel", "sum", "J", false)
  | 26 => ("RulePricesModel", "price", "J", false)
  | 27 => ("RulePricesModel", "below", "J", false)
  | 28 => ("RulePricesModel", "shareSum", "J", false)
  | 29 => ("RulePricesModel", "sharePrice", "J", false)
  | _ => ("RulePricesModel", "shareBelow", "J", false)
def tyX5 : Nat → FieldType := fun k => match k with
  | 0 => .int
  | 1 => .array .int
  | 2 => .array .int
  | 3 => .int
  | 4 => .array .int
  | 5 => .array .int
  | 6 => .array .int
  | 7 => .array .int
  | 8 => .array .boolean
  | 9 => .array .int
  | 10 => .array .int
  | 11 => .array .int
  | 12 => .int
  | 13 => .int
  | 14 => .array .int
  | 15 => .array .boolean
  | 16 => .int
  | 17 => .int
  | 18 => .array .int
  | 19 => .int
  | 20 => .array .int
  | 21 => .array .int
  | 22 => .array .int
  | 23 => .array .int
  | 24 => .array .long
  | 25 => .long
  | 26 => .long
  | 27 => .long
  | 28 => .long
  | 29 => .long
  | _ => .long
abbrev wsX50 : List Cond := u_ws RX5 TX5 31
theorem nmX5 : ∀ a, a < 31 → ∀ b, b < 31 → a ≠ b → (TX5 a).2.1 ≠ (TX5 b).2.1 := by decide +kernel
theorem tyX5_ok : ∀ k, k < 31 → parseFieldDescriptor (TX5 k).2.2.1 = some (tyX5 k) := by decide +kernel
abbrev cX5_init : ByteArray := prog_7_method_1_code
def yX5_init : MethodName := ⟨RX5, "<init>", "()V"⟩
abbrev cX5_in : ByteArray := prog_7_method_2_code
def yX5_in : MethodName := ⟨RX5, "in", "(JJJ)Z"⟩
abbrev cX5_isThing : ByteArray := prog_7_method_3_code
def yX5_isThing : MethodName := ⟨RX5, "isThing", "(I)Z"⟩
abbrev cX5_isRule : ByteArray := prog_7_method_4_code
def yX5_isRule : MethodName := ⟨RX5, "isRule", "(I)Z"⟩
abbrev cX5_isLimit : ByteArray := prog_7_method_5_code
def yX5_isLimit : MethodName := ⟨RX5, "isLimit", "(IJ)Z"⟩
abbrev cX5_thing : ByteArray := prog_7_method_6_code
def yX5_thing : MethodName := ⟨RX5, "thing", "(II)I"⟩
abbrev cX5_rule : ByteArray := prog_7_method_7_code
def yX5_rule : MethodName := ⟨RX5, "rule", "(IIII)I"⟩
abbrev cX5_amount : ByteArray := prog_7_method_8_code
def yX5_amount : MethodName := ⟨RX5, "amount", "(III)I"⟩
abbrev cX5_on : ByteArray := prog_7_method_9_code
def yX5_on : MethodName := ⟨RX5, "on", "(IZ)I"⟩
abbrev cX5_set : ByteArray := prog_7_method_10_code
def yX5_set : MethodName := ⟨RX5, "set", "(III)I"⟩
abbrev cX5_isAs : ByteArray := prog_7_method_11_code
def yX5_isAs : MethodName := ⟨RX5, "isAs", "(I[I)Z"⟩
abbrev cX5_fits : ByteArray := prog_7_method_12_code
def yX5_fits : MethodName := ⟨RX5, "fits", "([I)Z"⟩
abbrev cX5_valueOf : ByteArray := prog_7_method_13_code
def yX5_valueOf : MethodName := ⟨RX5, "valueOf", "([I)I"⟩
abbrev cX5_look : ByteArray := prog_7_method_14_code
def yX5_look : MethodName := ⟨RX5, "look", "(II)V"⟩
abbrev cX5_take : ByteArray := prog_7_method_15_code
def yX5_take : MethodName := ⟨RX5, "take", "()V"⟩
abbrev cX5_value : ByteArray := prog_7_method_16_code
def yX5_value : MethodName := ⟨RX5, "value", "()I"⟩
abbrev cX5_counted : ByteArray := prog_7_method_17_code
def yX5_counted : MethodName := ⟨RX5, "counted", "(I)I"⟩
abbrev cX5_first : ByteArray := prog_7_method_18_code
def yX5_first : MethodName := ⟨RX5, "first", "(I)I"⟩
abbrev cX5_fast : ByteArray := prog_7_method_19_code
def yX5_fast : MethodName := ⟨RX5, "fast", "(I)I"⟩
abbrev cX5_price : ByteArray := prog_7_method_20_code
def yX5_price : MethodName := ⟨RX5, "price", "(II)I"⟩
abbrev cX5_weight : ByteArray := prog_7_method_21_code
def yX5_weight : MethodName := ⟨RX5, "weight", "(I)I"⟩
abbrev cX5_rank : ByteArray := prog_7_method_22_code
def yX5_rank : MethodName := ⟨RX5, "rank", "(I)I"⟩
abbrev cX5_more : ByteArray := prog_7_method_23_code
def yX5_more : MethodName := ⟨RX5, "more", "(I)I"⟩
abbrev cX5_must : ByteArray := prog_7_method_24_code
def yX5_must : MethodName := ⟨RX5, "must", "(II)I"⟩
abbrev cX5_floor : ByteArray := prog_7_method_25_code
def yX5_floor : MethodName := ⟨RX5, "floor", "(II)I"⟩
abbrev cX5_span : ByteArray := prog_7_method_26_code
def yX5_span : MethodName := ⟨RX5, "span", "(IZ)I"⟩
abbrev cX5_put : ByteArray := prog_7_method_27_code
def yX5_put : MethodName := ⟨RX5, "put", "(II)I"⟩
abbrev cX5_worth : ByteArray := prog_7_method_28_code
def yX5_worth : MethodName := ⟨RX5, "worth", "()I"⟩
abbrev cX5_broken : ByteArray := prog_7_method_29_code
def yX5_broken : MethodName := ⟨RX5, "broken", "()I"⟩
abbrev cX5_addRow : ByteArray := prog_7_method_30_code
def yX5_addRow : MethodName := ⟨RX5, "addRow", "(II)V"⟩
abbrev cX5_rowsNow : ByteArray := prog_7_method_31_code
def yX5_rowsNow : MethodName := ⟨RX5, "rowsNow", "()V"⟩
abbrev cX5_determinant : ByteArray := prog_7_method_32_code
def yX5_determinant : MethodName := ⟨RX5, "determinant", "(I)J"⟩
abbrev cX5_isPriced : ByteArray := prog_7_method_33_code
def yX5_isPriced : MethodName := ⟨RX5, "isPriced", "(II)Z"⟩
abbrev cX5_shares : ByteArray := prog_7_method_34_code
def yX5_shares : MethodName := ⟨RX5, "shares", "(I)V"⟩
abbrev cX5_part : ByteArray := prog_7_method_35_code
def yX5_part : MethodName := ⟨RX5, "part", "(JJZ)J"⟩
abbrev cX5_share : ByteArray := prog_7_method_36_code
def yX5_share : MethodName := ⟨RX5, "share", "(Z)J"⟩
abbrev cX5_isPrice : ByteArray := prog_7_method_37_code
def yX5_isPrice : MethodName := ⟨RX5, "isPrice", "(I)Z"⟩
abbrev cX5_sharePrice : ByteArray := prog_7_method_38_code
def yX5_sharePrice : MethodName := ⟨RX5, "sharePrice", "(IZ)J"⟩
abbrev cX5_holds : ByteArray := prog_7_method_39_code
def yX5_holds : MethodName := ⟨RX5, "holds", "(I)I"⟩
abbrev cX5_gap : ByteArray := prog_7_method_40_code
def yX5_gap : MethodName := ⟨RX5, "gap", "(Z)J"⟩
abbrev cX5_told : ByteArray := prog_7_method_41_code
def yX5_told : MethodName := ⟨RX5, "told", "(I)I"⟩
def RJ6 : String := "java/lang/Integer"
def TJ6 : u_T := fun k => match k with
  | _ => ("", "", "", false)
def tyJ6 : Nat → FieldType := fun k => match k with
  | _ => .int
abbrev wsJ60 : List Cond := u_ws RJ6 TJ6 0
theorem nmJ6 : ∀ a, a < 0 → ∀ b, b < 0 → a ≠ b → (TJ6 a).2.1 ≠ (TJ6 b).2.1 := by decide +kernel
theorem tyJ6_ok : ∀ k, k < 0 → parseFieldDescriptor (TJ6 k).2.2.1 = some (tyJ6 k) := by decide +kernel
abbrev cJ6_bitCount_0f7a4 : ByteArray := prog_8_method_49_code
def yJ6_bitCount_0f7a4 : MethodName := ⟨RJ6, "bitCount", "(I)I"⟩
def RJ9 : String := "java/lang/Math"
def TJ9 : u_T := fun k => match k with
  | _ => ("", "", "", false)
def tyJ9 : Nat → FieldType := fun k => match k with
  | _ => .int
abbrev wsJ90 : List Cond := u_ws RJ9 TJ9 0
theorem nmJ9 : ∀ a, a < 0 → ∀ b, b < 0 → a ≠ b → (TJ9 a).2.1 ≠ (TJ9 b).2.1 := by decide +kernel
theorem tyJ9_ok : ∀ k, k < 0 → parseFieldDescriptor (TJ9 k).2.2.1 = some (tyJ9 k) := by decide +kernel
abbrev cJ9_floorDiv_7cf53 : ByteArray := prog_9_method_47_code
def yJ9_floorDiv_7cf53 : MethodName := ⟨RJ9, "floorDiv", "(II)I"⟩
abbrev cJ9_abs_067f4 : ByteArray := prog_9_method_61_code
def yJ9_abs_067f4 : MethodName := ⟨RJ9, "abs", "(J)J"⟩
abbrev cJ9_max_7cf53 : ByteArray := prog_9_method_65_code
def yJ9_max_7cf53 : MethodName := ⟨RJ9, "max", "(II)I"⟩
abbrev cJ9_max_f86c9 : ByteArray := prog_9_method_66_code
def yJ9_max_f86c9 : MethodName := ⟨RJ9, "max", "(JJ)J"⟩
abbrev cJ9_min_7cf53 : ByteArray := prog_9_method_69_code
def yJ9_min_7cf53 : MethodName := ⟨RJ9, "min", "(II)I"⟩
abbrev cJ9_min_f86c9 : ByteArray := prog_9_method_70_code
def yJ9_min_f86c9 : MethodName := ⟨RJ9, "min", "(JJ)J"⟩
def RJ7 : String := "java/util/Arrays"
def TJ7 : u_T := fun k => match k with
  | _ => ("", "", "", false)
def tyJ7 : Nat → FieldType := fun k => match k with
  | _ => .int
abbrev wsJ70 : List Cond := u_ws RJ7 TJ7 0
theorem nmJ7 : ∀ a, a < 0 → ∀ b, b < 0 → a ≠ b → (TJ7 a).2.1 ≠ (TJ7 b).2.1 := by decide +kernel
theorem tyJ7_ok : ∀ k, k < 0 → parseFieldDescriptor (TJ7 k).2.2.1 = some (tyJ7 k) := by decide +kernel
abbrev cJ7_fill_53178 : ByteArray := prog_10_method_103_code
def yJ7_fill_53178 : MethodName := ⟨RJ7, "fill", "([II)V"⟩
def RL : String := "RulePricesLaw"
abbrev cL_law : ByteArray := code
def yL_law : MethodName := ⟨RL, "law", "([I)Z"⟩
abbrev vwCl : List vw_C := [(RX0, TX0, 10), (RX1, TX1, 6), (RX2, TX2, 9), (RX3, TX3, 6), (RX4, TX4, 7), (RX5, TX5, 31)]

-- ===== PART A: goes FIRST, ahead of the names: the tables' words, and 'selects' of the private methods out of them =====
/-- a private method of a class that the tables say can be made, by its rows of tables_1 -/
def lw_okq (q : MethodName × Nat) : Prop := (q.1.cls ≠ "java/lang/invoke/MethodHandle" ∧ q.1.cls ≠ "java/lang/invoke/VarHandle") ∧ Cond.instantiable q.1.cls q.2 ∈ tables_1 ∧ Cond.privateMethod q.1 ∈ tables_1 ∧ Cond.instanceMethod q.1 ∈ tables_1
theorem lw_p0 : lw_okq (⟨"RulePrices", "markChanged", "()V"⟩, 7) := ⟨⟨by decide +kernel, by decide +kernel⟩, List.mem_of_getElem? (i := 11) (by decide +kernel), List.mem_of_getElem? (i := 212) (by decide +kernel), List.mem_of_getElem? (i := 213) (by decide +kernel)⟩
theorem lw_p1 : lw_okq (⟨"RulePrices", "isThing", "(I)Z"⟩, 7) := ⟨⟨by decide +kernel, by decide +kernel⟩, List.mem_of_getElem? (i := 11) (by decide +kernel), List.mem_of_getElem? (i := 227) (by decide +kernel), List.mem_of_getElem? (i := 228) (by decide +kernel)⟩
theorem lw_p2 : lw_okq (⟨"RulePrices", "isRule", "(I)Z"⟩, 7) := ⟨⟨by decide +kernel, by decide +kernel⟩, List.mem_of_getElem? (i := 11) (by decide +kernel), List.mem_of_getElem? (i := 243) (by decide +kernel), List.mem_of_getElem? (i := 244) (by decide +kernel)⟩
theorem lw_p3 : lw_okq (⟨"RulePrices", "replace", "([III)I"⟩, 7) := ⟨⟨by decide +kernel, by decide +kernel⟩, List.mem_of_getElem? (i := 11) (by decide +kernel), List.mem_of_getElem? (i := 247) (by decide +kernel), List.mem_of_getElem? (i := 248) (by decide +kernel)⟩
theorem lw_p4 : lw_okq (⟨"RulePrices", "freshSurvey", "()LRulePrices$Survey;"⟩, 7) := ⟨⟨by decide +kernel, by decide +kernel⟩, List.mem_of_getElem? (i := 11) (by decide +kernel), List.mem_of_getElem? (i := 263) (by decide +kernel), List.mem_of_getElem? (i := 264) (by decide +kernel)⟩
theorem lw_p5 : lw_okq (⟨"RulePrices$Survey", "lookAt", "(LRulePrices$Walk;)V"⟩, 9) := ⟨⟨by decide +kernel, by decide +kernel⟩, List.mem_of_getElem? (i := 110) (by decide +kernel), List.mem_of_getElem? (i := 284) (by decide +kernel), List.mem_of_getElem? (i := 285) (by decide +kernel)⟩
theorem lw_p6 : lw_okq (⟨"RulePrices$Walk", "load", "(I)I"⟩, 6) := ⟨⟨by decide +kernel, by decide +kernel⟩, List.mem_of_getElem? (i := 82) (by decide +kernel), List.mem_of_getElem? (i := 292) (by decide +kernel), List.mem_of_getElem? (i := 293) (by decide +kernel)⟩
theorem lw_p7 : lw_okq (⟨"RulePrices$Survey", "noteFitting", "([II)V"⟩, 9) := ⟨⟨by decide +kernel, by decide +kernel⟩, List.mem_of_getElem? (i := 110) (by decide +kernel), List.mem_of_getElem? (i := 300) (by decide +kernel), List.mem_of_getElem? (i := 301) (by decide +kernel)⟩
theorem lw_p8 : lw_okq (⟨"RulePrices$Survey", "noteBetter", "([II)V"⟩, 9) := ⟨⟨by decide +kernel, by decide +kernel⟩, List.mem_of_getElem? (i := 110) (by decide +kernel), List.mem_of_getElem? (i := 307) (by decide +kernel), List.mem_of_getElem? (i := 308) (by decide +kernel)⟩
theorem lw_p9 : lw_okq (⟨"RulePrices$Survey", "noteEqual", "([I)V"⟩, 9) := ⟨⟨by decide +kernel, by decide +kernel⟩, List.mem_of_getElem? (i := 110) (by decide +kernel), List.mem_of_getElem? (i := 311) (by decide +kernel), List.mem_of_getElem? (i := 312) (by decide +kernel)⟩
theorem lw_p10 : lw_okq (⟨"RulePrices$Walk", "shift", "(II)V"⟩, 6) := ⟨⟨by decide +kernel, by decide +kernel⟩, List.mem_of_getElem? (i := 82) (by decide +kernel), List.mem_of_getElem? (i := 319) (by decide +kernel), List.mem_of_getElem? (i := 320) (by decide +kernel)⟩
theorem lw_p11 : lw_okq (⟨"RulePrices$Survey", "restWith", "(III)I"⟩, 9) := ⟨⟨by decide +kernel, by decide +kernel⟩, List.mem_of_getElem? (i := 110) (by decide +kernel), List.mem_of_getElem? (i := 393) (by decide +kernel), List.mem_of_getElem? (i := 394) (by decide +kernel)⟩
theorem lw_p12 : lw_okq (⟨"RulePrices", "freshCorners", "()LRulePrices$Corners;"⟩, 7) := ⟨⟨by decide +kernel, by decide +kernel⟩, List.mem_of_getElem? (i := 11) (by decide +kernel), List.mem_of_getElem? (i := 426) (by decide +kernel), List.mem_of_getElem? (i := 427) (by decide +kernel)⟩
theorem lw_p13 : lw_okq (⟨"RulePrices$Corners", "tryCorner", "(LRulePrices$Book;II)V"⟩, 6) := ⟨⟨by decide +kernel, by decide +kernel⟩, List.mem_of_getElem? (i := 150) (by decide +kernel), List.mem_of_getElem? (i := 444) (by decide +kernel), List.mem_of_getElem? (i := 445) (by decide +kernel)⟩
theorem lw_p14 : lw_okq (⟨"RulePrices$Corners", "writeEquations", "(LRulePrices$Book;II)V"⟩, 6) := ⟨⟨by decide +kernel, by decide +kernel⟩, List.mem_of_getElem? (i := 150) (by decide +kernel), List.mem_of_getElem? (i := 454) (by decide +kernel), List.mem_of_getElem? (i := 455) (by decide +kernel)⟩
theorem lw_p15 : lw_okq (⟨"RulePrices$Corners", "writePrices", "(IIJ)Z"⟩, 6) := ⟨⟨by decide +kernel, by decide +kernel⟩, List.mem_of_getElem? (i := 150) (by decide +kernel), List.mem_of_getElem? (i := 461) (by decide +kernel), List.mem_of_getElem? (i := 462) (by decide +kernel)⟩
def lw_privs_1 : List (MethodName × Nat) := [(⟨"RulePrices", "markChanged", "()V"⟩, 7), (⟨"RulePrices", "isThing", "(I)Z"⟩, 7), (⟨"RulePrices", "isRule", "(I)Z"⟩, 7), (⟨"RulePrices", "replace", "([III)I"⟩, 7), (⟨"RulePrices", "freshSurvey", "()LRulePrices$Survey;"⟩, 7), (⟨"RulePrices$Survey", "lookAt", "(LRulePrices$Walk;)V"⟩, 9), (⟨"RulePrices$Walk", "load", "(I)I"⟩, 6), (⟨"RulePrices$Survey", "noteFitting", "([II)V"⟩, 9), (⟨"RulePrices$Survey", "noteBetter", "([II)V"⟩, 9), (⟨"RulePrices$Survey", "noteEqual", "([I)V"⟩, 9), (⟨"RulePrices$Walk", "shift", "(II)V"⟩, 6), (⟨"RulePrices$Survey", "restWith", "(III)I"⟩, 9), (⟨"RulePrices", "freshCorners", "()LRulePrices$Corners;"⟩, 7), (⟨"RulePrices$Corners", "tryCorner", "(LRulePrices$Book;II)V"⟩, 6), (⟨"RulePrices$Corners", "writeEquations", "(LRulePrices$Book;II)V"⟩, 6), (⟨"RulePrices$Corners", "writePrices", "(IIJ)Z"⟩, 6)]
theorem lw_r1 : ∀ q ∈ lw_privs_1, lw_okq q := List.forall_mem_cons.mpr ⟨lw_p0, List.forall_mem_cons.mpr ⟨lw_p1, List.forall_mem_cons.mpr ⟨lw_p2, List.forall_mem_cons.mpr ⟨lw_p3, List.forall_mem_cons.mpr ⟨lw_p4, List.forall_mem_cons.mpr ⟨lw_p5, List.forall_mem_cons.mpr ⟨lw_p6, List.forall_mem_cons.mpr ⟨lw_p7, List.forall_mem_cons.mpr ⟨lw_p8, List.forall_mem_cons.mpr ⟨lw_p9, List.forall_mem_cons.mpr ⟨lw_p10, List.forall_mem_cons.mpr ⟨lw_p11, List.forall_mem_cons.mpr ⟨lw_p12, List.forall_mem_cons.mpr ⟨lw_p13, List.forall_mem_cons.mpr ⟨lw_p14, List.forall_mem_cons.mpr ⟨lw_p15, fun _ h => absurd h List.not_mem_nil⟩⟩⟩⟩⟩⟩⟩⟩⟩⟩⟩⟩⟩⟩⟩⟩
theorem lw_p16 : lw_okq (⟨"RulePrices$Corners", "swapDues", "(II)V"⟩, 6) := ⟨⟨by decide +kernel, by decide +kernel⟩, List.mem_of_getElem? (i := 150) (by decide +kernel), List.mem_of_getElem? (i := 465) (by decide +kernel), List.mem_of_getElem? (i := 466) (by decide +kernel)⟩
theorem lw_p17 : lw_okq (⟨"RulePrices$Corners", "boundAt", "(LRulePrices$Book;I)J"⟩, 6) := ⟨⟨by decide +kernel, by decide +kernel⟩, List.mem_of_getElem? (i := 150) (by decide +kernel), List.mem_of_getElem? (i := 472) (by decide +kernel), List.mem_of_getElem? (i := 473) (by decide +kernel)⟩
theorem lw_p18 : lw_okq (⟨"RulePrices$Corners", "boundAbove", "(II)J"⟩, 6) := ⟨⟨by decide +kernel, by decide +kernel⟩, List.mem_of_getElem? (i := 150) (by decide +kernel), List.mem_of_getElem? (i := 487) (by decide +kernel), List.mem_of_getElem? (i := 488) (by decide +kernel)⟩
theorem lw_p19 : lw_okq (⟨"RulePrices$Corners", "slopeBelow", "(III)J"⟩, 6) := ⟨⟨by decide +kernel, by decide +kernel⟩, List.mem_of_getElem? (i := 150) (by decide +kernel), List.mem_of_getElem? (i := 507) (by decide +kernel), List.mem_of_getElem? (i := 508) (by decide +kernel)⟩
theorem lw_p20 : lw_okq (⟨"RulePrices", "toldCount", "(I)I"⟩, 7) := ⟨⟨by decide +kernel, by decide +kernel⟩, List.mem_of_getElem? (i := 11) (by decide +kernel), List.mem_of_getElem? (i := 532) (by decide +kernel), List.mem_of_getElem? (i := 533) (by decide +kernel)⟩
theorem lw_p21 : lw_okq (⟨"RulePricesModel", "isThing", "(I)Z"⟩, 31) := ⟨⟨by decide +kernel, by decide +kernel⟩, List.mem_of_getElem? (i := 540) (by decide +kernel), List.mem_of_getElem? (i := 661) (by decide +kernel), List.mem_of_getElem? (i := 662) (by decide +kernel)⟩
theorem lw_p22 : lw_okq (⟨"RulePricesModel", "isRule", "(I)Z"⟩, 31) := ⟨⟨by decide +kernel, by decide +kernel⟩, List.mem_of_getElem? (i := 540) (by decide +kernel), List.mem_of_getElem? (i := 669) (by decide +kernel), List.mem_of_getElem? (i := 670) (by decide +kernel)⟩
theorem lw_p23 : lw_okq (⟨"RulePricesModel", "look", "(II)V"⟩, 31) := ⟨⟨by decide +kernel, by decide +kernel⟩, List.mem_of_getElem? (i := 540) (by decide +kernel), List.mem_of_getElem? (i := 687) (by decide +kernel), List.mem_of_getElem? (i := 688) (by decide +kernel)⟩
theorem lw_p24 : lw_okq (⟨"RulePricesModel", "fits", "([I)Z"⟩, 31) := ⟨⟨by decide +kernel, by decide +kernel⟩, List.mem_of_getElem? (i := 540) (by decide +kernel), List.mem_of_getElem? (i := 691) (by decide +kernel), List.mem_of_getElem? (i := 692) (by decide +kernel)⟩
theorem lw_p25 : lw_okq (⟨"RulePricesModel", "isAs", "(I[I)Z"⟩, 31) := ⟨⟨by decide +kernel, by decide +kernel⟩, List.mem_of_getElem? (i := 540) (by decide +kernel), List.mem_of_getElem? (i := 695) (by decide +kernel), List.mem_of_getElem? (i := 696) (by decide +kernel)⟩
theorem lw_p26 : lw_okq (⟨"RulePricesModel", "take", "()V"⟩, 31) := ⟨⟨by decide +kernel, by decide +kernel⟩, List.mem_of_getElem? (i := 540) (by decide +kernel), List.mem_of_getElem? (i := 699) (by decide +kernel), List.mem_of_getElem? (i := 700) (by decide +kernel)⟩
theorem lw_p27 : lw_okq (⟨"RulePricesModel", "valueOf", "([I)I"⟩, 31) := ⟨⟨by decide +kernel, by decide +kernel⟩, List.mem_of_getElem? (i := 540) (by decide +kernel), List.mem_of_getElem? (i := 703) (by decide +kernel), List.mem_of_getElem? (i := 704) (by decide +kernel)⟩
theorem lw_p28 : lw_okq (⟨"RulePricesModel", "shares", "(I)V"⟩, 31) := ⟨⟨by decide +kernel, by decide +kernel⟩, List.mem_of_getElem? (i := 540) (by decide +kernel), List.mem_of_getElem? (i := 764) (by decide +kernel), List.mem_of_getElem? (i := 765) (by decide +kernel)⟩
theorem lw_p29 : lw_okq (⟨"RulePricesModel", "rowsNow", "()V"⟩, 31) := ⟨⟨by decide +kernel, by decide +kernel⟩, List.mem_of_getElem? (i := 540) (by decide +kernel), List.mem_of_getElem? (i := 768) (by decide +kernel), List.mem_of_getElem? (i := 769) (by decide +kernel)⟩
theorem lw_p30 : lw_okq (⟨"RulePricesModel", "addRow", "(II)V"⟩, 31) := ⟨⟨by decide +kernel, by decide +kernel⟩, List.mem_of_getElem? (i := 540) (by decide +kernel), List.mem_of_getElem? (i := 772) (by decide +kernel), List.mem_of_getElem? (i := 773) (by decide +kernel)⟩
theorem lw_p31 : lw_okq (⟨"RulePricesModel", "isPriced", "(II)Z"⟩, 31) := ⟨⟨by decide +kernel, by decide +kernel⟩, List.mem_of_getElem? (i := 540) (by decide +kernel), List.mem_of_getElem? (i := 776) (by decide +kernel), List.mem_of_getElem? (i := 777) (by decide +kernel)⟩
def lw_privs_2 : List (MethodName × Nat) := [(⟨"RulePrices$Corners", "swapDues", "(II)V"⟩, 6), (⟨"RulePrices$Corners", "boundAt", "(LRulePrices$Book;I)J"⟩, 6), (⟨"RulePrices$Corners", "boundAbove", "(II)J"⟩, 6), (⟨"RulePrices$Corners", "slopeBelow", "(III)J"⟩, 6), (⟨"RulePrices", "toldCount", "(I)I"⟩, 7), (⟨"RulePricesModel", "isThing", "(I)Z"⟩, 31), (⟨"RulePricesModel", "isRule", "(I)Z"⟩, 31), (⟨"RulePricesModel", "look", "(II)V"⟩, 31), (⟨"RulePricesModel", "fits", "([I)Z"⟩, 31), (⟨"RulePricesModel", "isAs", "(I[I)Z"⟩, 31), (⟨"RulePricesModel", "take", "()V"⟩, 31), (⟨"RulePricesModel", "valueOf", "([I)I"⟩, 31), (⟨"RulePricesModel", "shares", "(I)V"⟩, 31), (⟨"RulePricesModel", "rowsNow", "()V"⟩, 31), (⟨"RulePricesModel", "addRow", "(II)V"⟩, 31), (⟨"RulePricesModel", "isPriced", "(II)Z"⟩, 31)]
theorem lw_r2 : ∀ q ∈ lw_privs_2, lw_okq q := List.forall_mem_cons.mpr ⟨lw_p16, List.forall_mem_cons.mpr ⟨lw_p17, List.forall_mem_cons.mpr ⟨lw_p18, List.forall_mem_cons.mpr ⟨lw_p19, List.forall_mem_cons.mpr ⟨lw_p20, List.forall_mem_cons.mpr ⟨lw_p21, List.forall_mem_cons.mpr ⟨lw_p22, List.forall_mem_cons.mpr ⟨lw_p23, List.forall_mem_cons.mpr ⟨lw_p24, List.forall_mem_cons.mpr ⟨lw_p25, List.forall_mem_cons.mpr ⟨lw_p26, List.forall_mem_cons.mpr ⟨lw_p27, List.forall_mem_cons.mpr ⟨lw_p28, List.forall_mem_cons.mpr ⟨lw_p29, List.forall_mem_cons.mpr ⟨lw_p30, List.forall_mem_cons.mpr ⟨lw_p31, fun _ h => absurd h List.not_mem_nil⟩⟩⟩⟩⟩⟩⟩⟩⟩⟩⟩⟩⟩⟩⟩⟩
theorem lw_p32 : lw_okq (⟨"RulePricesModel", "determinant", "(I)J"⟩, 31) := ⟨⟨by decide +kernel, by decide +kernel⟩, List.mem_of_getElem? (i := 540) (by decide +kernel), List.mem_of_getElem? (i := 780) (by decide +kernel), List.mem_of_getElem? (i := 781) (by decide +kernel)⟩
theorem lw_p33 : lw_okq (⟨"RulePricesModel", "isPrice", "(I)Z"⟩, 31) := ⟨⟨by decide +kernel, by decide +kernel⟩, List.mem_of_getElem? (i := 540) (by decide +kernel), List.mem_of_getElem? (i := 791) (by decide +kernel), List.mem_of_getElem? (i := 792) (by decide +kernel)⟩
def lw_privs_3 : List (MethodName × Nat) := [(⟨"RulePricesModel", "determinant", "(I)J"⟩, 31), (⟨"RulePricesModel", "isPrice", "(I)Z"⟩, 31)]
theorem lw_r3 : ∀ q ∈ lw_privs_3, lw_okq q := List.forall_mem_cons.mpr ⟨lw_p32, List.forall_mem_cons.mpr ⟨lw_p33, fun _ h => absurd h List.not_mem_nil⟩⟩
def lw_privs : List (MethodName × Nat) := lw_privs_1 ++ (lw_privs_2 ++ (lw_privs_3))
def lw_tbl : List Cond := k2_sels lw_privs ++ tables_1
theorem lw_privs_ok : ∀ q ∈ lw_privs, lw_okq q := by
  show ∀ q ∈ lw_privs_1 ++ (lw_privs_2 ++ (lw_privs_3)), lw_okq q
  exact List.forall_mem_append.mpr ⟨lw_r1, List.forall_mem_append.mpr ⟨lw_r2, lw_r3⟩⟩

/-! ===== BEGIN words of one list among another's, by their places ===== -/
theorem goodIn_r {big : List Cond} (ws : List Cond) (ps : List Nat) (hp : ws = ps.filterMap (fun i => big[i]?)) (h : ws.all goodWord = true) : GoodIn big ws := by
  intro w hw
  have h1 := List.all_eq_true.mp h w hw
  rw [hp] at hw
  obtain ⟨i, -, hi⟩ := List.mem_filterMap.mp hw
  have hm : w ∈ big := by first | exact List.mem_of_getElem? hi | exact List.getElem?_mem hi
  exact ⟨hm, good_of_word h1⟩
theorem goodIn_app {big a b : List Cond} (ha : GoodIn big a) (hb : GoodIn big b) : GoodIn big (a ++ b) := fun w h => (List.mem_append.mp h).elim (ha w) (hb w)
theorem goodIn_ca {big a b : List Cond} {c : Cond} (ha : GoodIn big (c :: a)) (hb : GoodIn big b) : GoodIn big (c :: (a ++ b)) := fun w h => (List.mem_cons.mp h).elim (fun e => ha w (List.mem_cons.mpr (Or.inl e))) (fun h => (List.mem_append.mp h).elim (fun h => ha w (List.mem_cons.mpr (Or.inr h))) (hb w))
theorem goodIn_sub {big ws : List Cond} (hm : ∀ w ∈ ws, w ∈ big) (h : ws.all goodWord = true) : GoodIn big ws := fun w hw => ⟨hm w hw, good_of_word (List.all_eq_true.mp h w hw)⟩
/-! ===== END ===== -/

/-! ===== BEGIN printed: names, fields, word lists, decode rows ===== -/
def RX0 : String := "RulePrices$Book"
def TX0 : u_T := fun k => match k with
  | 0 => ("RulePrices$Book", "things", "I", false)
  | 1 => ("RulePrices$Book", "rules", "I", false)
  | 2 => ("RulePrices$Book", "worths", "[I", true)
  | 3 => ("RulePrices$Book", "mosts", "[I", true)
  | 4 => ("RulePrices$Book", "kinds", "[I", true)
  | 5 => ("RulePrices$Book", "lefts", "[I", true)
  | 6 => ("RulePrices$Book", "rights", "[I", true)
  | 7 => ("RulePrices$Book", "limits", "[I", true)
  | 8 => ("RulePrices$Book", "ons", "[Z", true)
  | _ => ("RulePrices$Book", "factors", "[I", true)
def tyX0 : Nat → FieldType := fun k => match k with
  | 0 => .int
  | 1 => .int
  | 2 => .array .int
  | 3 => .array .int
  | 4 => .array .int
  | 5 => .array .int
  | 6 => .array .int
  | 7 => .array .int
  | 8 => .array .boolean
  | _ => .array .int
abbrev wsX00 : List Cond := u_ws RX0 TX0 10
theorem nmX0 : ∀ a, a < 10 → ∀ b, b < 10 → a ≠ b → (TX0 a).2.1 ≠ (TX0 b).2.1 := by decide +kernel
theorem tyX0_ok : ∀ k, k < 10 → parseFieldDescriptor (TX0 k).2.2.1 = some (tyX0 k) := by decide +kernel
abbrev cX0_init : ByteArray := prog_2_method_1_code
def yX0_init : MethodName := ⟨RX0, "<init>", "()V"⟩
abbrev cX0_addThing : ByteArray := prog_2_method_2_code
def yX0_addThing : MethodName := ⟨RX0, "addThing", "(II)I"⟩
abbrev cX0_addRule : ByteArray := prog_2_method_3_code
def yX0_addRule : MethodName := ⟨RX0, "addRule", "(II)I"⟩
abbrev cX0_pair : ByteArray := prog_2_method_4_code
def yX0_pair : MethodName := ⟨RX0, "pair", "(III)V"⟩
abbrev cX0_rulesOn : ByteArray := prog_2_method_5_code
def yX0_rulesOn : MethodName := ⟨RX0, "rulesOn", "()I"⟩
abbrev cX0_countsForShares : ByteArray := prog_2_method_6_code
def yX0_countsForShares : MethodName := ⟨RX0, "countsForShares", "(I)Z"⟩
def RX1 : String := "RulePrices$Corners"
def TX1 : u_T := fun k => match k with
  | 0 => ("RulePrices$Corners", "size", "I", false)
  | 1 => ("RulePrices$Corners", "tops", "[J", true)
  | 2 => ("RulePrices$Corners", "belows", "[J", true)
  | 3 => ("RulePrices$Corners", "slopes", "[J", true)
  | 4 => ("RulePrices$Corners", "cells", "[J", true)
  | _ => ("RulePrices$Corners", "dues", "[J", true)
def tyX1 : Nat → FieldType := fun k => match k with
  | 0 => .int
  | 1 => .array .long
  | 2 => .array .long
  | 3 => .array .long
  | 4 => .array .long
  | _ => .array .long
abbrev wsX10 : List Cond := u_ws RX1 TX1 6
theorem nmX1 : ∀ a, a < 6 → ∀ b, b < 6 → a ≠ b → (TX1 a).2.1 ≠ (TX1 b).2.1 := by decide +kernel
theorem tyX1_ok : ∀ k, k < 6 → parseFieldDescriptor (TX1 k).2.2.1 = some (tyX1 k) := by decide +kernel
abbrev cX1_init : ByteArray := prog_3_method_1_code
def yX1_init : MethodName := ⟨RX1, "<init>", "()V"⟩
abbrev cX1_find : ByteArray := prog_3_method_2_code
def yX1_find : MethodName := ⟨RX1, "find", "(LRulePrices$Book;)V"⟩
abbrev cX1_allCount : ByteArray := prog_3_method_3_code
def yX1_allCount : MethodName := ⟨RX1, "allCount", "(LRulePrices$Book;I)Z"⟩
abbrev cX1_has : ByteArray := prog_3_method_4_code
def yX1_has : MethodName := ⟨RX1, "has", "(II)Z"⟩
abbrev cX1_writeEquations : ByteArray := prog_3_method_5_code
def yX1_writeEquations : MethodName := ⟨RX1, "writeEquations", "(LRulePrices$Book;II)V"⟩
abbrev cX1_tryCorner : ByteArray := prog_3_method_6_code
def yX1_tryCorner : MethodName := ⟨RX1, "tryCorner", "(LRulePrices$Book;II)V"⟩
abbrev cX1_writePrices : ByteArray := prog_3_method_7_code
def yX1_writePrices : MethodName := ⟨RX1, "writePrices", "(IIJ)Z"⟩
abbrev cX1_swapDues : ByteArray := prog_3_method_8_code
def yX1_swapDues : MethodName := ⟨RX1, "swapDues", "(II)V"⟩
abbrev cX1_determinant : ByteArray := prog_3_method_9_code
def yX1_determinant : MethodName := ⟨RX1, "determinant", "([JIII)J"⟩
abbrev cX1_boundAt : ByteArray := prog_3_method_10_code
def yX1_boundAt : MethodName := ⟨RX1, "boundAt", "(LRulePrices$Book;I)J"⟩
abbrev cX1_slope : ByteArray := prog_3_method_11_code
def yX1_slope : MethodName := ⟨RX1, "slope", "(II)J"⟩
abbrev cX1_leastBound : ByteArray := prog_3_method_12_code
def yX1_leastBound : MethodName := ⟨RX1, "leastBound", "()I"⟩
abbrev cX1_leastBoundFlattest : ByteArray := prog_3_method_13_code
def yX1_leastBoundFlattest : MethodName := ⟨RX1, "leastBoundFlattest", "(I)I"⟩
abbrev cX1_reach : ByteArray := prog_3_method_14_code
def yX1_reach : MethodName := ⟨RX1, "reach", "(II)I"⟩
abbrev cX1_boundAbove : ByteArray := prog_3_method_15_code
def yX1_boundAbove : MethodName := ⟨RX1, "boundAbove", "(II)J"⟩
abbrev cX1_slopeBelow : ByteArray := prog_3_method_16_code
def yX1_slopeBelow : MethodName := ⟨RX1, "slopeBelow", "(III)J"⟩
def RX2 : String := "RulePrices$Survey"
def TX2 : u_T := fun k => match k with
  | 0 => ("RulePrices$Survey", "things", "I", false)
  | 1 => ("RulePrices$Survey", "all", "I", false)
  | 2 => ("RulePrices$Survey", "fitting", "I", false)
  | 3 => ("RulePrices$Survey", "best", "I", false)
  | 4 => ("RulePrices$Survey", "greatest", "I", false)
  | 5 => ("RulePrices$Survey", "firstBest", "[I", true)
  | 6 => ("RulePrices$Survey", "isFast", "[Z", true)
  | 7 => ("RulePrices$Survey", "withCount", "[I", true)
  | _ => ("RulePrices$Survey", "forbiddenBy", "[I", true)
def tyX2 : Nat → FieldType := fun k => match k with
  | 0 => .int
  | 1 => .int
  | 2 => .int
  | 3 => .int
  | 4 => .int
  | 5 => .array .int
  | 6 => .array .boolean
  | 7 => .array .int
  | _ => .array .int
abbrev wsX20 : List Cond := u_ws RX2 TX2 9
theorem nmX2 : ∀ a, a < 9 → ∀ b, b < 9 → a ≠ b → (TX2 a).2.1 ≠ (TX2 b).2.1 := by decide +kernel
theorem tyX2_ok : ∀ k, k < 9 → parseFieldDescriptor (TX2 k).2.2.1 = some (tyX2 k) := by decide +kernel
abbrev cX2_init : ByteArray := prog_4_method_1_code
def yX2_init : MethodName := ⟨RX2, "<init>", "()V"⟩
abbrev cX2_lookAtAll : ByteArray := prog_4_method_2_code
def yX2_lookAtAll : MethodName := ⟨RX2, "lookAtAll", "(LRulePrices$Walk;I)V"⟩
abbrev cX2_lookAt : ByteArray := prog_4_method_3_code
def yX2_lookAt : MethodName := ⟨RX2, "lookAt", "(LRulePrices$Walk;)V"⟩
abbrev cX2_noteFitting : ByteArray := prog_4_method_4_code
def yX2_noteFitting : MethodName := ⟨RX2, "noteFitting", "([II)V"⟩
abbrev cX2_noteBetter : ByteArray := prog_4_method_5_code
def yX2_noteBetter : MethodName := ⟨RX2, "noteBetter", "([II)V"⟩
abbrev cX2_noteEqual : ByteArray := prog_4_method_6_code
def yX2_noteEqual : MethodName := ⟨RX2, "noteEqual", "([I)V"⟩
abbrev cX2_greatestWith : ByteArray := prog_4_method_7_code
def yX2_greatestWith : MethodName := ⟨RX2, "greatestWith", "(II)I"⟩
abbrev cX2_gainWithout : ByteArray := prog_4_method_8_code
def yX2_gainWithout : MethodName := ⟨RX2, "gainWithout", "(I)I"⟩
abbrev cX2_rulesAhead : ByteArray := prog_4_method_9_code
def yX2_rulesAhead : MethodName := ⟨RX2, "rulesAhead", "(II)I"⟩
abbrev cX2_spanBottom : ByteArray := prog_4_method_10_code
def yX2_spanBottom : MethodName := ⟨RX2, "spanBottom", "(II)I"⟩
abbrev cX2_spanTop : ByteArray := prog_4_method_11_code
def yX2_spanTop : MethodName := ⟨RX2, "spanTop", "(II)I"⟩
abbrev cX2_restWith : ByteArray := prog_4_method_12_code
def yX2_restWith : MethodName := ⟨RX2, "restWith", "(III)I"⟩
def RX3 : String := "RulePrices$Walk"
def TX3 : u_T := fun k => match k with
  | 0 => ("RulePrices$Walk", "book", "LRulePrices$Book;", true)
  | 1 => ("RulePrices$Walk", "limits", "[I", true)
  | 2 => ("RulePrices$Walk", "mosts", "[I", true)
  | 3 => ("RulePrices$Walk", "loads", "[I", true)
  | 4 => ("RulePrices$Walk", "counts", "[I", true)
  | _ => ("RulePrices$Walk", "sum", "I", false)
def tyX3 : Nat → FieldType := fun k => match k with
  | 0 => .object "RulePrices$Book"
  | 1 => .array .int
  | 2 => .array .int
  | 3 => .array .int
  | 4 => .array .int
  | _ => .int
abbrev wsX30 : List Cond := u_ws RX3 TX3 6
theorem nmX3 : ∀ a, a < 6 → ∀ b, b < 6 → a ≠ b → (TX3 a).2.1 ≠ (TX3 b).2.1 := by decide +kernel
theorem tyX3_ok : ∀ k, k < 6 → parseFieldDescriptor (TX3 k).2.2.1 = some (tyX3 k) := by decide +kernel
abbrev cX3_init : ByteArray := prog_5_method_1_code
def yX3_init : MethodName := ⟨RX3, "<init>", "(LRulePrices$Book;)V"⟩
abbrev cX3_begin : ByteArray := prog_5_method_2_code
def yX3_begin : MethodName := ⟨RX3, "begin", "()V"⟩
abbrev cX3_loosen : ByteArray := prog_5_method_3_code
def yX3_loosen : MethodName := ⟨RX3, "loosen", "(II)V"⟩
abbrev cX3_allowOneMore : ByteArray := prog_5_method_4_code
def yX3_allowOneMore : MethodName := ⟨RX3, "allowOneMore", "(I)V"⟩
abbrev cX3_goTo : ByteArray := prog_5_method_5_code
def yX3_goTo : MethodName := ⟨RX3, "goTo", "([I)V"⟩
abbrev cX3_plans : ByteArray := prog_5_method_6_code
def yX3_plans : MethodName := ⟨RX3, "plans", "()I"⟩
abbrev cX3_step : ByteArray := prog_5_method_7_code
def yX3_step : MethodName := ⟨RX3, "step", "()V"⟩
abbrev cX3_shift : ByteArray := prog_5_method_8_code
def yX3_shift : MethodName := ⟨RX3, "shift", "(II)V"⟩
abbrev cX3_firstOver : ByteArray := prog_5_method_9_code
def yX3_firstOver : MethodName := ⟨RX3, "firstOver", "(I)I"⟩
abbrev cX3_load : ByteArray := prog_5_method_10_code
def yX3_load : MethodName := ⟨RX3, "load", "(I)I"⟩
abbrev cX3_greatestFitting : ByteArray := prog_5_method_11_code
def yX3_greatestFitting : MethodName := ⟨RX3, "greatestFitting", "()I"⟩
def RX4 : String := "RulePrices"
def TX4 : u_T := fun k => match k with
  | 0 => ("RulePrices", "book", "LRulePrices$Book;", true)
  | 1 => ("RulePrices", "walk", "LRulePrices$Walk;", true)
  | 2 => ("RulePrices", "survey", "LRulePrices$Survey;", true)
  | 3 => ("RulePrices", "corners", "LRulePrices$Corners;", true)
  | 4 => ("RulePrices", "putCounts", "[I", true)
  | 5 => ("RulePrices", "surveyIsFresh", "Z", false)
  | _ => ("RulePrices", "cornersAreFresh", "Z", false)
def tyX4 : Nat → FieldType := fun k => match k with
  | 0 => .object "RulePrices$Book"
  | 1 => .object "RulePrices$Walk"
  | 2 => .object "RulePrices$Survey"
  | 3 => .object "RulePrices$Corners"
  | 4 => .array .int
  | 5 => .boolean
  | _ => .boolean
abbrev wsX40 : List Cond := u_ws RX4 TX4 7
theorem nmX4 : ∀ a, a < 7 → ∀ b, b < 7 → a ≠ b → (TX4 a).2.1 ≠ (TX4 b).2.1 := by decide +kernel
theorem tyX4_ok : ∀ k, k < 7 → parseFieldDescriptor (TX4 k).2.2.1 = some (tyX4 k) := by decide +kernel
abbrev cX4_init : ByteArray := prog_1_method_1_code
def yX4_init : MethodName := ⟨RX4, "<init>", "()V"⟩
abbrev cX4_thing : ByteArray := prog_1_method_2_code
def yX4_thing : MethodName := ⟨RX4, "thing", "(II)I"⟩
abbrev cX4_rule : ByteArray := prog_1_method_3_code
def yX4_rule : MethodName := ⟨RX4, "rule", "(IIII)I"⟩
abbrev cX4_amount : ByteArray := prog_1_method_4_code
def yX4_amount : MethodName := ⟨RX4, "amount", "(III)I"⟩
abbrev cX4_on : ByteArray := prog_1_method_5_code
def yX4_on : MethodName := ⟨RX4, "on", "(IZ)I"⟩
abbrev cX4_set : ByteArray := prog_1_method_6_code
def yX4_set : MethodName := ⟨RX4, "set", "(III)I"⟩
abbrev cX4_value : ByteArray := prog_1_method_7_code
def yX4_value : MethodName := ⟨RX4, "value", "()I"⟩
abbrev cX4_counted : ByteArray := prog_1_method_8_code
def yX4_counted : MethodName := ⟨RX4, "counted", "(I)I"⟩
abbrev cX4_first : ByteArray := prog_1_method_9_code
def yX4_first : MethodName := ⟨RX4, "first", "(I)I"⟩
abbrev cX4_fast : ByteArray := prog_1_method_10_code
def yX4_fast : MethodName := ⟨RX4, "fast", "(I)I"⟩
abbrev cX4_price : ByteArray := prog_1_method_11_code
def yX4_price : MethodName := ⟨RX4, "price", "(II)I"⟩
abbrev cX4_weight : ByteArray := prog_1_method_12_code
def yX4_weight : MethodName := ⟨RX4, "weight", "(I)I"⟩
abbrev cX4_rank : ByteArray := prog_1_method_13_code
def yX4_rank : MethodName := ⟨RX4, "rank", "(I)I"⟩
abbrev cX4_more : ByteArray := prog_1_method_14_code
def yX4_more : MethodName := ⟨RX4, "more", "(I)I"⟩
abbrev cX4_must : ByteArray := prog_1_method_15_code
def yX4_must : MethodName := ⟨RX4, "must", "(II)I"⟩
abbrev cX4_span : ByteArray := prog_1_method_16_code
def yX4_span : MethodName := ⟨RX4, "span", "(IZ)I"⟩
abbrev cX4_put : ByteArray := prog_1_method_17_code
def yX4_put : MethodName := ⟨RX4, "put", "(II)I"⟩
abbrev cX4_worth : ByteArray := prog_1_method_18_code
def yX4_worth : MethodName := ⟨RX4, "worth", "()I"⟩
abbrev cX4_broken : ByteArray := prog_1_method_19_code
def yX4_broken : MethodName := ⟨RX4, "broken", "()I"⟩
abbrev cX4_share : ByteArray := prog_1_method_20_code
def yX4_share : MethodName := ⟨RX4, "share", "(Z)J"⟩
abbrev cX4_sharePrice : ByteArray := prog_1_method_21_code
def yX4_sharePrice : MethodName := ⟨RX4, "sharePrice", "(IZ)J"⟩
abbrev cX4_holds : ByteArray := prog_1_method_22_code
def yX4_holds : MethodName := ⟨RX4, "holds", "(I)I"⟩
abbrev cX4_gap : ByteArray := prog_1_method_23_code
def yX4_gap : MethodName := ⟨RX4, "gap", "(Z)J"⟩
abbrev cX4_told : ByteArray := prog_1_method_24_code
def yX4_told : MethodName := ⟨RX4, "told", "(I)I"⟩
abbrev cX4_toldCount : ByteArray := prog_1_method_25_code
def yX4_toldCount : MethodName := ⟨RX4, "toldCount", "(I)I"⟩
abbrev cX4_isThing : ByteArray := prog_1_method_26_code
def yX4_isThing : MethodName := ⟨RX4, "isThing", "(I)Z"⟩
abbrev cX4_isRule : ByteArray := prog_1_method_27_code
def yX4_isRule : MethodName := ⟨RX4, "isRule", "(I)Z"⟩
abbrev cX4_isWorth : ByteArray := prog_1_method_28_code
def yX4_isWorth : MethodName := ⟨RX4, "isWorth", "(I)Z"⟩
abbrev cX4_isCount : ByteArray := prog_1_method_29_code
def yX4_isCount : MethodName := ⟨RX4, "isCount", "(I)Z"⟩
abbrev cX4_isLimit : ByteArray := prog_1_method_30_code
def yX4_isLimit : MethodName := ⟨RX4, "isLimit", "(IJ)Z"⟩
abbrev cX4_replace : ByteArray := prog_1_method_31_code
def yX4_replace : MethodName := ⟨RX4, "replace", "([III)I"⟩
abbrev cX4_markChanged : ByteArray := prog_1_method_32_code
def yX4_markChanged : MethodName := ⟨RX4, "markChanged", "()V"⟩
abbrev cX4_freshSurvey : ByteArray := prog_1_method_33_code
def yX4_freshSurvey : MethodName := ⟨RX4, "freshSurvey", "()LRulePrices$Survey;"⟩
abbrev cX4_freshCorners : ByteArray := prog_1_method_34_code
def yX4_freshCorners : MethodName := ⟨RX4, "freshCorners", "()LRulePrices$Corners;"⟩
abbrev cX4_inLowestTerms : ByteArray := prog_1_method_35_code
def yX4_inLowestTerms : MethodName := ⟨RX4, "inLowestTerms", "(JJZ)J"⟩
abbrev cX4_commonDivisor : ByteArray := prog_1_method_36_code
def yX4_commonDivisor : MethodName := ⟨RX4, "commonDivisor", "(JJ)J"⟩
def RX5 : String := "RulePricesModel"
def TX5 : u_T := fun k => match k with
  | 0 => ("RulePricesModel", "things", "I", false)
  | 1 => ("RulePricesModel", "worth", "[I", true)
  | 2 => ("RulePricesModel", "most", "[I", true)
  | 3 => ("RulePricesModel", "rules", "I", false)
  | 4 => ("RulePricesModel", "kind", "[I", true)
  | 5 => ("RulePricesModel", "one", "[I", true)
  | 6 => ("RulePricesModel", "other", "[I", true)
  | 7 => ("RulePricesModel", "limit", "[I", true)
  | 8 => ("RulePricesModel", "isOn", "[Z", true)
  | 9 => ("RulePricesModel", "amount", "[I", true)
  | 10 => ("RulePricesModel", "told", "[I", true)
  | 11 => ("RulePricesModel", "now", "[I", true)
  | 12 => ("RulePricesModel", "best", "I", false)
  | 13 => ("RulePricesModel", "bestMany", "I", false)
  | 14 => ("RulePricesModel", "first", "[I", true)
  | 15 => ("RulePricesModel", "isSame", "[Z", true)
  | 16 => ("RulePricesModel", "fitMany", "I", false)
  | 17 => ("RulePricesModel", "allMany", "I", false)
  | 18 => ("RulePricesModel", "weights", "[I", true)
  | 19 => ("RulePricesModel", "rows", "I", false)
  | 20 => ("RulePricesModel", "row", "[I", true)
  | 21 => ("RulePricesModel", "bound", "[I", true)
  | 22 => ("RulePricesModel", "ruleOf", "[I", true)
  | 23 => ("RulePricesModel", "chosen", "[I", true)
  | 24 => ("RulePricesModel", "work", "[J", true)
  | 25 => ("RulePricesModel", "sum", "J", false)
  | 26 => ("RulePricesModel", "price", "J", false)
  | 27 => ("RulePricesModel", "below", "J", false)
  | 28 => ("RulePricesModel", "shareSum", "J", false)
  | 29 => ("RulePricesModel", "sharePrice", "J", false)
  | _ => ("RulePricesModel", "shareBelow", "J", false)
def tyX5 : Nat → FieldType := fun k => match k with
  | 0 => .int
  | 1 => .array .int
  | 2 => .array .int
  | 3 => .int
  | 4 => .array .int
  | 5 => .array .int
  | 6 => .array .int
  | 7 => .array .int
  | 8 => .array .boolean
  | 9 => .array .int
  | 10 => .array .int
  | 11 => .array .int
  | 12 => .int
  | 13 => .int
  | 14 => .array .int
  | 15 => .array .boolean
  | 16 => .int
  | 17 => .int
  | 18 => .array .int
  | 19 => .int
  | 20 => .array .int
  | 21 => .array .int
  | 22 => .array .int
  | 23 => .array .int
  | 24 => .array .long
  | 25 => .long
  | 26 => .long
  | 27 => .long
  | 28 => .long
  | 29 => .long
  | _ => .long
abbrev wsX50 : List Cond := u_ws RX5 TX5 31
theorem nmX5 : ∀ a, a < 31 → ∀ b, b < 31 → a ≠ b → (TX5 a).2.1 ≠ (TX5 b).2.1 := by decide +kernel
theorem tyX5_ok : ∀ k, k < 31 → parseFieldDescriptor (TX5 k).2.2.1 = some (tyX5 k) := by decide +kernel
abbrev cX5_init : ByteArray := prog_7_method_1_code
def yX5_init : MethodName := ⟨RX5, "<init>", "()V"⟩
abbrev cX5_in : ByteArray := prog_7_method_2_code
def yX5_in : MethodName := ⟨RX5, "in", "(JJJ)Z"⟩
abbrev cX5_isThing : ByteArray := prog_7_method_3_code
def yX5_isThing : MethodName := ⟨RX5, "isThing", "(I)Z"⟩
abbrev cX5_isRule : ByteArray := prog_7_method_4_code
def yX5_isRule : MethodName := ⟨RX5, "isRule", "(I)Z"⟩
abbrev cX5_isLimit : ByteArray := prog_7_method_5_code
def yX5_isLimit : MethodName := ⟨RX5, "isLimit", "(IJ)Z"⟩
abbrev cX5_thing : ByteArray := prog_7_method_6_code
def yX5_thing : MethodName := ⟨RX5, "thing", "(II)I"⟩
abbrev cX5_rule : ByteArray := prog_7_method_7_code
def yX5_rule : MethodName := ⟨RX5, "rule", "(IIII)I"⟩
abbrev cX5_amount : ByteArray := prog_7_method_8_code
def yX5_amount : MethodName := ⟨RX5, "amount", "(III)I"⟩
abbrev cX5_on : ByteArray := prog_7_method_9_code
def yX5_on : MethodName := ⟨RX5, "on", "(IZ)I"⟩
abbrev cX5_set : ByteArray := prog_7_method_10_code
def yX5_set : MethodName := ⟨RX5, "set", "(III)I"⟩
abbrev cX5_isAs : ByteArray := prog_7_method_11_code
def yX5_isAs : MethodName := ⟨RX5, "isAs", "(I[I)Z"⟩
abbrev cX5_fits : ByteArray := prog_7_method_12_code
def yX5_fits : MethodName := ⟨RX5, "fits", "([I)Z"⟩
abbrev cX5_valueOf : ByteArray := prog_7_method_13_code
def yX5_valueOf : MethodName := ⟨RX5, "valueOf", "([I)I"⟩
abbrev cX5_look : ByteArray := prog_7_method_14_code
def yX5_look : MethodName := ⟨RX5, "look", "(II)V"⟩
abbrev cX5_take : ByteArray := prog_7_method_15_code
def yX5_take : MethodName := ⟨RX5, "take", "()V"⟩
abbrev cX5_value : ByteArray := prog_7_method_16_code
def yX5_value : MethodName := ⟨RX5, "value", "()I"⟩
abbrev cX5_counted : ByteArray := prog_7_method_17_code
def yX5_counted : MethodName := ⟨RX5, "counted", "(I)I"⟩
abbrev cX5_first : ByteArray := prog_7_method_18_code
def yX5_first : MethodName := ⟨RX5, "first", "(I)I"⟩
abbrev cX5_fast : ByteArray := prog_7_method_19_code
def yX5_fast : MethodName := ⟨RX5, "fast", "(I)I"⟩
abbrev cX5_price : ByteArray := prog_7_method_20_code
def yX5_price : MethodName := ⟨RX5, "price", "(II)I"⟩
abbrev cX5_weight : ByteArray := prog_7_method_21_code
def yX5_weight : MethodName := ⟨RX5, "weight", "(I)I"⟩
abbrev cX5_rank : ByteArray := prog_7_method_22_code
def yX5_rank : MethodName := ⟨RX5, "rank", "(I)I"⟩
abbrev cX5_more : ByteArray := prog_7_method_23_code
def yX5_more : MethodName := ⟨RX5, "more", "(I)I"⟩
abbrev cX5_must : ByteArray := prog_7_method_24_code
def yX5_must : MethodName := ⟨RX5, "must", "(II)I"⟩
abbrev cX5_floor : ByteArray := prog_7_method_25_code
def yX5_floor : MethodName := ⟨RX5, "floor", "(II)I"⟩
abbrev cX5_span : ByteArray := prog_7_method_26_code
def yX5_span : MethodName := ⟨RX5, "span", "(IZ)I"⟩
abbrev cX5_put : ByteArray := prog_7_method_27_code
def yX5_put : MethodName := ⟨RX5, "put", "(II)I"⟩
abbrev cX5_worth : ByteArray := prog_7_method_28_code
def yX5_worth : MethodName := ⟨RX5, "worth", "()I"⟩
abbrev cX5_broken : ByteArray := prog_7_method_29_code
def yX5_broken : MethodName := ⟨RX5, "broken", "()I"⟩
abbrev cX5_addRow : ByteArray := prog_7_method_30_code
def yX5_addRow : MethodName := ⟨RX5, "addRow", "(II)V"⟩
abbrev cX5_rowsNow : ByteArray := prog_7_method_31_code
def yX5_rowsNow : MethodName := ⟨RX5, "rowsNow", "()V"⟩
abbrev cX5_determinant : ByteArray := prog_7_method_32_code
def yX5_determinant : MethodName := ⟨RX5, "determinant", "(I)J"⟩
abbrev cX5_isPriced : ByteArray := prog_7_method_33_code
def yX5_isPriced : MethodName := ⟨RX5, "isPriced", "(II)Z"⟩
abbrev cX5_shares : ByteArray := prog_7_method_34_code
def yX5_shares : MethodName := ⟨RX5, "shares", "(I)V"⟩
abbrev cX5_part : ByteArray := prog_7_method_35_code
def yX5_part : MethodName := ⟨RX5, "part", "(JJZ)J"⟩
abbrev cX5_share : ByteArray := prog_7_method_36_code
def yX5_share : MethodName := ⟨RX5, "share", "(Z)J"⟩
abbrev cX5_isPrice : ByteArray := prog_7_method_37_code
def yX5_isPrice : MethodName := ⟨RX5, "isPrice", "(I)Z"⟩
abbrev cX5_sharePrice : ByteArray := prog_7_method_38_code
def yX5_sharePrice : MethodName := ⟨RX5, "sharePrice", "(IZ)J"⟩
abbrev cX5_holds : ByteArray := prog_7_method_39_code
def yX5_holds : MethodName := ⟨RX5, "holds", "(I)I"⟩
abbrev cX5_gap : ByteArray := prog_7_method_40_code
def yX5_gap : MethodName := ⟨RX5, "gap", "(Z)J"⟩
abbrev cX5_told : ByteArray := prog_7_method_41_code
def yX5_told : MethodName := ⟨RX5, "told", "(I)I"⟩
def RJ6 : String := "java/lang/Integer"
def TJ6 : u_T := fun k => match k with
  | _ => ("", "", "", false)
def tyJ6 : Nat → FieldType := fun k => match k with
  | _ => .int
abbrev wsJ60 : List Cond := u_ws RJ6 TJ6 0
theorem nmJ6 : ∀ a, a < 0 → ∀ b, b < 0 → a ≠ b → (TJ6 a).2.1 ≠ (TJ6 b).2.1 := by decide +kernel
theorem tyJ6_ok : ∀ k, k < 0 → parseFieldDescriptor (TJ6 k).2.2.1 = some (tyJ6 k) := by decide +kernel
abbrev cJ6_bitCount_0f7a4 : ByteArray := prog_8_method_49_code
def yJ6_bitCount_0f7a4 : MethodName := ⟨RJ6, "bitCount", "(I)I"⟩
def RJ9 : String := "java/lang/Math"
def TJ9 : u_T := fun k => match k with
  | _ => ("", "", "", false)
def tyJ9 : Nat → FieldType := fun k => match k with
  | _ => .int
abbrev wsJ90 : List Cond := u_ws RJ9 TJ9 0
theorem nmJ9 : ∀ a, a < 0 → ∀ b, b < 0 → a ≠ b → (TJ9 a).2.1 ≠ (TJ9 b).2.1 := by decide +kernel
theorem tyJ9_ok : ∀ k, k < 0 → parseFieldDescriptor (TJ9 k).2.2.1 = some (tyJ9 k) := by decide +kernel
abbrev cJ9_floorDiv_7cf53 : ByteArray := prog_9_method_47_code
def yJ9_floorDiv_7cf53 : MethodName := ⟨RJ9, "floorDiv", "(II)I"⟩
abbrev cJ9_abs_067f4 : ByteArray := prog_9_method_61_code
def yJ9_abs_067f4 : MethodName := ⟨RJ9, "abs", "(J)J"⟩
abbrev cJ9_max_7cf53 : ByteArray := prog_9_method_65_code
def yJ9_max_7cf53 : MethodName := ⟨RJ9, "max", "(II)I"⟩
abbrev cJ9_max_f86c9 : ByteArray := prog_9_method_66_code
def yJ9_max_f86c9 : MethodName := ⟨RJ9, "max", "(JJ)J"⟩
abbrev cJ9_min_7cf53 : ByteArray := prog_9_method_69_code
def yJ9_min_7cf53 : MethodName := ⟨RJ9, "min", "(II)I"⟩
abbrev cJ9_min_f86c9 : ByteArray := prog_9_method_70_code
def yJ9_min_f86c9 : MethodName := ⟨RJ9, "min", "(JJ)J"⟩
def RJ7 : String := "java/util/Arrays"
def TJ7 : u_T := fun k => match k with
  | _ => ("", "", "", false)
def tyJ7 : Nat → FieldType := fun k => match k with
  | _ => .int
abbrev wsJ70 : List Cond := u_ws RJ7 TJ7 0
theorem nmJ7 : ∀ a, a < 0 → ∀ b, b < 0 → a ≠ b → (TJ7 a).2.1 ≠ (TJ7 b).2.1 := by decide +kernel
theorem tyJ7_ok : ∀ k, k < 0 → parseFieldDescriptor (TJ7 k).2.2.1 = some (tyJ7 k) := by decide +kernel
abbrev cJ7_fill_53178 : ByteArray := prog_10_method_103_code
def yJ7_fill_53178 : MethodName := ⟨RJ7, "fill", "([II)V"⟩
def RL : String := "RulePricesLaw"
abbrev cL_law : ByteArray := code
def yL_law : MethodName := ⟨RL, "law", "([I)Z"⟩
def wsL_law_r1 : List Cond := [Cond.classLink RL 7 RX4, Cond.instantiable RX4 7, Cond.initialized RX4, Cond.classLink RL 10 RX5, Cond.instantiable RX5 31, Cond.initialized RX5, Cond.methodLink RL 9 yX4_init, Cond.instanceMethod yX4_init, Cond.code yX4_init cX4_init 1 none, Cond.methodLink RX4 1 objectInit, Cond.instanceMethod objectInit, Cond.code objectInit ⟨#[0xb1]⟩ 1 none, Cond.classLink RX4 7 RX0, Cond.instantiable RX0 10, Cond.initialized RX0, Cond.fieldLink RX4 10 "RulePrices" "book" "LRulePrices$Book;", Cond.classLink RX4 16 RX3, Cond.instantiable RX3 6, Cond.initialized RX3, Cond.fieldLink RX4 21 "RulePrices" "walk" "LRulePrices$Walk;", Cond.classLink RX4 25 RX2, Cond.instantiable RX2 9, Cond.initialized RX2, Cond.fieldLink RX4 28 "RulePrices" "survey" "LRulePrices$Survey;"]
def wsL_law_r2 : List Cond := [Cond.classLink RX4 32 RX1, Cond.instantiable RX1 6, Cond.initialized RX1, Cond.fieldLink RX4 35 "RulePrices" "corners" "LRulePrices$Corners;", Cond.arrayClass .int, Cond.fieldLink RX4 39 "RulePrices" "putCounts" "[I", Cond.instanceMethod yX0_init, Cond.code yX0_init cX0_init 1 none, Cond.methodLink RX0 3 objectInit, Cond.fieldLink RX0 9 "RulePrices$Book" "worths" "[I", Cond.fieldLink RX0 15 "RulePrices$Book" "mosts" "[I", Cond.fieldLink RX0 18 "RulePrices$Book" "kinds" "[I", Cond.fieldLink RX0 21 "RulePrices$Book" "lefts" "[I", Cond.fieldLink RX0 24 "RulePrices$Book" "rights" "[I", Cond.fieldLink RX0 27 "RulePrices$Book" "limits" "[I", Cond.arrayClass .boolean, Cond.fieldLink RX0 30 "RulePrices$Book" "ons" "[Z", Cond.fieldLink RX0 34 "RulePrices$Book" "factors" "[I", Cond.methodLink RX4 18 yX3_init, Cond.instanceMethod yX3_init, Cond.code yX3_init cX3_init 2 none, Cond.methodLink RX3 3 objectInit, Cond.fieldLink RX3 9 "RulePrices$Walk" "limits" "[I", Cond.fieldLink RX3 15 "RulePrices$Walk" "mosts" "[I"]
def wsL_law_r3 : List Cond := [Cond.fieldLink RX3 18 "RulePrices$Walk" "loads" "[I", Cond.fieldLink RX3 21 "RulePrices$Walk" "counts" "[I", Cond.fieldLink RX3 24 "RulePrices$Walk" "book" "LRulePrices$Book;", Cond.instanceMethod yX2_init, Cond.code yX2_init cX2_init 1 none, Cond.methodLink RX2 3 objectInit, Cond.fieldLink RX2 9 "RulePrices$Survey" "firstBest" "[I", Cond.fieldLink RX2 15 "RulePrices$Survey" "isFast" "[Z", Cond.fieldLink RX2 19 "RulePrices$Survey" "withCount" "[I", Cond.fieldLink RX2 22 "RulePrices$Survey" "forbiddenBy" "[I", Cond.instanceMethod yX1_init, Cond.code yX1_init cX1_init 1 none, Cond.methodLink RX1 3 objectInit, Cond.arrayClass .long, Cond.fieldLink RX1 11 "RulePrices$Corners" "tops" "[J", Cond.fieldLink RX1 15 "RulePrices$Corners" "belows" "[J", Cond.fieldLink RX1 18 "RulePrices$Corners" "slopes" "[J", Cond.fieldLink RX1 21 "RulePrices$Corners" "cells" "[J", Cond.fieldLink RX1 24 "RulePrices$Corners" "dues" "[J", Cond.methodLink RL 12 yX5_init, Cond.instanceMethod yX5_init, Cond.code yX5_init cX5_init 1 none, Cond.methodLink RX5 1 objectInit, Cond.fieldLink RX5 7 "RulePricesModel" "worth" "[I"]
def wsL_law_r4 : List Cond := [Cond.fieldLink RX5 13 "RulePricesModel" "most" "[I", Cond.fieldLink RX5 16 "RulePricesModel" "kind" "[I", Cond.fieldLink RX5 19 "RulePricesModel" "one" "[I", Cond.fieldLink RX5 22 "RulePricesModel" "other" "[I", Cond.fieldLink RX5 25 "RulePricesModel" "limit" "[I", Cond.fieldLink RX5 28 "RulePricesModel" "isOn" "[Z", Cond.fieldLink RX5 32 "RulePricesModel" "amount" "[I", Cond.fieldLink RX5 35 "RulePricesModel" "told" "[I", Cond.fieldLink RX5 38 "RulePricesModel" "now" "[I", Cond.fieldLink RX5 41 "RulePricesModel" "first" "[I", Cond.fieldLink RX5 44 "RulePricesModel" "isSame" "[Z", Cond.fieldLink RX5 47 "RulePricesModel" "weights" "[I", Cond.fieldLink RX5 50 "RulePricesModel" "row" "[I", Cond.fieldLink RX5 53 "RulePricesModel" "bound" "[I", Cond.fieldLink RX5 56 "RulePricesModel" "ruleOf" "[I", Cond.fieldLink RX5 59 "RulePricesModel" "chosen" "[I", Cond.fieldLink RX5 62 "RulePricesModel" "work" "[J", Cond.methodLink RL 13 yX4_thing, Cond.instanceMethod yX4_thing, Cond.selects RX4 yX4_thing yX4_thing, Cond.code yX4_thing cX4_thing 3 (some .int), Cond.constant RX4 50 (-1000001), Cond.fieldLink RX4 51 "RulePrices$Book" "things" "I", Cond.constant RX4 55 (-1000002)]
def wsL_law_r5 : List Cond := [Cond.methodLink RX4 43 yX4_isWorth, Cond.static yX4_isWorth, Cond.code yX4_isWorth cX4_isWorth 1 (some .boolean), Cond.methodLink RX4 47 yX4_isCount, Cond.static yX4_isCount, Cond.code yX4_isCount cX4_isCount 1 (some .boolean), Cond.methodLink RX4 56 yX4_markChanged, Cond.instanceMethod yX4_markChanged, Cond.selects RX4 yX4_markChanged yX4_markChanged, Cond.code yX4_markChanged cX4_markChanged 1 none, Cond.fieldLink RX4 205 "RulePrices" "surveyIsFresh" "Z", Cond.fieldLink RX4 209 "RulePrices" "cornersAreFresh" "Z", Cond.methodLink RX4 59 yX0_addThing, Cond.instanceMethod yX0_addThing, Cond.selects RX0 yX0_addThing yX0_addThing, Cond.code yX0_addThing cX0_addThing 4 (some .int), Cond.fieldLink RX0 37 "RulePrices$Book" "things" "I", Cond.methodLink RL 17 yX5_thing, Cond.instanceMethod yX5_thing, Cond.selects RX5 yX5_thing yX5_thing, Cond.code yX5_thing cX5_thing 3 (some .int), Cond.constantLong RX5 81 (-99), Cond.constantLong RX5 83 (99), Cond.constantLong RX5 79 (9)]
def wsL_law_r6 : List Cond := [Cond.constant RX5 85 (-1000001), Cond.fieldLink RX5 66 "RulePricesModel" "things" "I", Cond.constant RX5 86 (-1000002), Cond.methodLink RX5 70 yX5_in, Cond.static yX5_in, Cond.code yX5_in cX5_in 6 (some .boolean), Cond.methodLink RL 18 yX4_rule, Cond.instanceMethod yX4_rule, Cond.selects RX4 yX4_rule yX4_rule, Cond.code yX4_rule cX4_rule 6 (some .int), Cond.fieldLink RX4 70 "RulePrices$Book" "rules" "I", Cond.methodLink RX4 63 yX4_isLimit, Cond.static yX4_isLimit, Cond.code yX4_isLimit cX4_isLimit 3 (some .boolean), Cond.methodLink RX4 67 yX4_isThing, Cond.instanceMethod yX4_isThing, Cond.selects RX4 yX4_isThing yX4_isThing, Cond.code yX4_isThing cX4_isThing 2 (some .boolean), Cond.methodLink RX4 73 yX0_addRule, Cond.instanceMethod yX0_addRule, Cond.selects RX0 yX0_addRule yX0_addRule, Cond.code yX0_addRule cX0_addRule 4 (some .int), Cond.fieldLink RX0 41 "RulePrices$Book" "rules" "I", Cond.methodLink RX4 76 yX0_pair]
def wsL_law_r7 : List Cond := [Cond.instanceMethod yX0_pair, Cond.selects RX0 yX0_pair yX0_pair, Cond.code yX0_pair cX0_pair 4 none, Cond.methodLink RL 22 yX5_rule, Cond.instanceMethod yX5_rule, Cond.selects RX5 yX5_rule yX5_rule, Cond.code yX5_rule cX5_rule 5 (some .int), Cond.constantLong RX5 87 (2), Cond.fieldLink RX5 74 "RulePricesModel" "rules" "I", Cond.methodLink RX5 89 yX5_isLimit, Cond.static yX5_isLimit, Cond.code yX5_isLimit cX5_isLimit 3 (some .boolean), Cond.constantLong RX5 77 (999), Cond.methodLink RX5 93 yX5_isThing, Cond.instanceMethod yX5_isThing, Cond.selects RX5 yX5_isThing yX5_isThing, Cond.code yX5_isThing cX5_isThing 2 (some .boolean), Cond.methodLink RL 23 yX4_amount, Cond.instanceMethod yX4_amount, Cond.selects RX4 yX4_amount yX4_amount, Cond.code yX4_amount cX4_amount 4 (some .int), Cond.fieldLink RX4 83 "RulePrices$Book" "kinds" "[I", Cond.fieldLink RX4 86 "RulePrices$Book" "factors" "[I", Cond.methodLink RX4 80 yX4_isRule]
def wsL_law_r8 : List Cond := [Cond.instanceMethod yX4_isRule, Cond.selects RX4 yX4_isRule yX4_isRule, Cond.code yX4_isRule cX4_isRule 2 (some .boolean), Cond.methodLink RX4 89 yX4_replace, Cond.instanceMethod yX4_replace, Cond.selects RX4 yX4_replace yX4_replace, Cond.code yX4_replace cX4_replace 5 (some .int), Cond.methodLink RL 27 yX5_amount, Cond.instanceMethod yX5_amount, Cond.selects RX5 yX5_amount yX5_amount, Cond.code yX5_amount cX5_amount 5 (some .int), Cond.constantLong RX5 100 (-9), Cond.methodLink RX5 97 yX5_isRule, Cond.instanceMethod yX5_isRule, Cond.selects RX5 yX5_isRule yX5_isRule, Cond.code yX5_isRule cX5_isRule 2 (some .boolean), Cond.methodLink RL 28 yX4_on, Cond.instanceMethod yX4_on, Cond.selects RX4 yX4_on yX4_on, Cond.code yX4_on cX4_on 4 (some .int), Cond.fieldLink RX4 93 "RulePrices$Book" "ons" "[Z", Cond.methodLink RL 32 yX5_on, Cond.instanceMethod yX5_on, Cond.selects RX5 yX5_on yX5_on]
def wsL_law_r9 : List Cond := [Cond.code yX5_on cX5_on 4 (some .int), Cond.methodLink RL 33 yX4_set, Cond.instanceMethod yX4_set, Cond.selects RX4 yX4_set yX4_set, Cond.code yX4_set cX4_set 4 (some .int), Cond.fieldLink RX4 97 "RulePrices$Book" "limits" "[I", Cond.fieldLink RX4 100 "RulePrices$Book" "worths" "[I", Cond.fieldLink RX4 103 "RulePrices$Book" "mosts" "[I", Cond.methodLink RL 36 yX5_set, Cond.instanceMethod yX5_set, Cond.selects RX5 yX5_set yX5_set, Cond.code yX5_set cX5_set 6 (some .int), Cond.methodLink RL 37 yX4_value, Cond.instanceMethod yX4_value, Cond.selects RX4 yX4_value yX4_value, Cond.code yX4_value cX4_value 1 (some .int), Cond.fieldLink RX4 110 "RulePrices$Survey" "greatest" "I", Cond.methodLink RX4 106 yX4_freshSurvey, Cond.instanceMethod yX4_freshSurvey, Cond.selects RX4 yX4_freshSurvey yX4_freshSurvey, Cond.code yX4_freshSurvey cX4_freshSurvey 1 (some (.object "RulePrices$Survey")), Cond.methodLink RX4 212 yX2_lookAtAll, Cond.instanceMethod yX2_lookAtAll, Cond.selects RX2 yX2_lookAtAll yX2_lookAtAll]
def wsL_law_r10 : List Cond := [Cond.code yX2_lookAtAll cX2_lookAtAll 4 none, Cond.fieldLink RX2 25 "RulePrices$Survey" "things" "I", Cond.fieldLink RX2 29 "RulePrices$Survey" "fitting" "I", Cond.fieldLink RX2 32 "RulePrices$Survey" "best" "I", Cond.constant RX2 35 (-1000000), Cond.fieldLink RX2 36 "RulePrices$Survey" "greatest" "I", Cond.fieldLink RX2 54 "RulePrices$Survey" "all" "I", Cond.methodLink RX2 39 yJ7_fill_53178, Cond.static yJ7_fill_53178, Cond.initialized RJ7, Cond.code yJ7_fill_53178 cJ7_fill_53178 4 none, Cond.methodLink RX2 45 yX3_begin, Cond.instanceMethod yX3_begin, Cond.selects RX3 yX3_begin yX3_begin, Cond.code yX3_begin cX3_begin 2 none, Cond.fieldLink RX3 28 "RulePrices$Book" "rules" "I", Cond.fieldLink RX3 34 "RulePrices$Book" "ons" "[Z", Cond.fieldLink RX3 38 "RulePrices$Book" "limits" "[I", Cond.constant RX3 39 (1000000), Cond.fieldLink RX3 40 "RulePrices$Book" "things" "I", Cond.fieldLink RX3 43 "RulePrices$Book" "mosts" "[I", Cond.fieldLink RX3 44 "RulePrices$Walk" "sum" "I", Cond.methodLink RX2 50 yX3_plans, Cond.instanceMethod yX3_plans]
def wsL_law_r11 : List Cond := [Cond.selects RX3 yX3_plans yX3_plans, Cond.code yX3_plans cX3_plans 3 (some .int), Cond.methodLink RX2 57 yX2_lookAt, Cond.instanceMethod yX2_lookAt, Cond.selects RX2 yX2_lookAt yX2_lookAt, Cond.code yX2_lookAt cX2_lookAt 3 none, Cond.fieldLink RX2 68 "RulePrices$Walk" "counts" "[I", Cond.fieldLink RX2 71 "RulePrices$Walk" "sum" "I", Cond.methodLink RX2 77 Lib.Math.max.name, Cond.static Lib.Math.max.name, Cond.initialized "java/lang/Math", Cond.code Lib.Math.max.name Lib.Math.max.code 2 (some .int), Cond.methodLink RX2 64 yX3_firstOver, Cond.instanceMethod yX3_firstOver, Cond.selects RX3 yX3_firstOver yX3_firstOver, Cond.code yX3_firstOver cX3_firstOver 3 (some .int), Cond.constant RX3 61 (-1000000), Cond.methodLink RX3 57 yX3_load, Cond.instanceMethod yX3_load, Cond.selects RX3 yX3_load yX3_load, Cond.code yX3_load cX3_load 2 (some .int), Cond.fieldLink RX3 62 "RulePrices$Book" "kinds" "[I", Cond.fieldLink RX3 65 "RulePrices$Book" "lefts" "[I", Cond.fieldLink RX3 68 "RulePrices$Book" "rights" "[I"]
def wsL_law_r12 : List Cond := [Cond.methodLink RX3 71 Lib.Math.min.name, Cond.static Lib.Math.min.name, Cond.code Lib.Math.min.name Lib.Math.min.code 2 (some .int), Cond.methodLink RX2 74 yX2_noteFitting, Cond.instanceMethod yX2_noteFitting, Cond.selects RX2 yX2_noteFitting yX2_noteFitting, Cond.code yX2_noteFitting cX2_noteFitting 5 none, Cond.methodLink RX2 83 yX2_noteBetter, Cond.instanceMethod yX2_noteBetter, Cond.selects RX2 yX2_noteBetter yX2_noteBetter, Cond.code yX2_noteBetter cX2_noteBetter 4 none, Cond.methodLink RX2 86 yX2_noteEqual, Cond.instanceMethod yX2_noteEqual, Cond.selects RX2 yX2_noteEqual yX2_noteEqual, Cond.code yX2_noteEqual cX2_noteEqual 3 none, Cond.methodLink RX2 61 yX3_step, Cond.instanceMethod yX3_step, Cond.selects RX3 yX3_step yX3_step, Cond.code yX3_step cX3_step 2 none, Cond.methodLink RX3 47 yX3_shift, Cond.instanceMethod yX3_shift, Cond.selects RX3 yX3_shift yX3_shift, Cond.code yX3_shift cX3_shift 4 none, Cond.fieldLink RX3 51 "RulePrices$Book" "worths" "[I"]
def wsL_law_r13 : List Cond := [Cond.fieldLink RX3 54 "RulePrices$Book" "factors" "[I", Cond.methodLink RL 41 yX5_value, Cond.instanceMethod yX5_value, Cond.selects RX5 yX5_value yX5_value, Cond.code yX5_value cX5_value 1 (some .int), Cond.constant RX5 106 (-1000000), Cond.fieldLink RX5 107 "RulePricesModel" "best" "I", Cond.methodLink RX5 130 yX5_look, Cond.instanceMethod yX5_look, Cond.selects RX5 yX5_look yX5_look, Cond.code yX5_look cX5_look 5 none, Cond.fieldLink RX5 110 "RulePricesModel" "bestMany" "I", Cond.fieldLink RX5 113 "RulePricesModel" "fitMany" "I", Cond.fieldLink RX5 116 "RulePricesModel" "allMany" "I", Cond.methodLink RX5 119 yX5_fits, Cond.instanceMethod yX5_fits, Cond.selects RX5 yX5_fits yX5_fits, Cond.code yX5_fits cX5_fits 3 (some .boolean), Cond.methodLink RX5 102 yX5_isAs, Cond.instanceMethod yX5_isAs, Cond.selects RX5 yX5_isAs yX5_isAs, Cond.code yX5_isAs cX5_isAs 5 (some .boolean), Cond.methodLink RX5 123 yX5_take, Cond.instanceMethod yX5_take]
def wsL_law_r14 : List Cond := [Cond.selects RX5 yX5_take yX5_take, Cond.code yX5_take cX5_take 4 none, Cond.methodLink RX5 126 yX5_valueOf, Cond.instanceMethod yX5_valueOf, Cond.selects RX5 yX5_valueOf yX5_valueOf, Cond.code yX5_valueOf cX5_valueOf 4 (some .int), Cond.methodLink RL 42 yX4_counted, Cond.instanceMethod yX4_counted, Cond.selects RX4 yX4_counted yX4_counted, Cond.code yX4_counted cX4_counted 2 (some .int), Cond.fieldLink RX4 113 "RulePrices$Survey" "best" "I", Cond.fieldLink RX4 116 "RulePrices$Survey" "fitting" "I", Cond.fieldLink RX4 119 "RulePrices$Survey" "all" "I", Cond.methodLink RL 46 yX5_counted, Cond.instanceMethod yX5_counted, Cond.selects RX5 yX5_counted yX5_counted, Cond.code yX5_counted cX5_counted 2 (some .int), Cond.methodLink RL 47 yX4_first, Cond.instanceMethod yX4_first, Cond.selects RX4 yX4_first yX4_first, Cond.code yX4_first cX4_first 2 (some .int), Cond.fieldLink RX4 122 "RulePrices$Survey" "firstBest" "[I", Cond.methodLink RL 50 yX5_first, Cond.instanceMethod yX5_first]
def wsL_law_r15 : List Cond := [Cond.selects RX5 yX5_first yX5_first, Cond.code yX5_first cX5_first 2 (some .int), Cond.methodLink RL 51 yX4_fast, Cond.instanceMethod yX4_fast, Cond.selects RX4 yX4_fast yX4_fast, Cond.code yX4_fast cX4_fast 2 (some .int), Cond.fieldLink RX4 125 "RulePrices$Survey" "isFast" "[Z", Cond.methodLink RL 54 yX5_fast, Cond.instanceMethod yX5_fast, Cond.selects RX5 yX5_fast yX5_fast, Cond.code yX5_fast cX5_fast 2 (some .int), Cond.methodLink RL 55 yX4_price, Cond.instanceMethod yX4_price, Cond.selects RX4 yX4_price yX4_price, Cond.code yX4_price cX4_price 4 (some .int), Cond.methodLink RX4 128 yX3_begin, Cond.methodLink RX4 131 yX3_loosen, Cond.instanceMethod yX3_loosen, Cond.selects RX3 yX3_loosen yX3_loosen, Cond.code yX3_loosen cX3_loosen 3 none, Cond.methodLink RX4 135 yX3_greatestFitting, Cond.instanceMethod yX3_greatestFitting, Cond.selects RX3 yX3_greatestFitting yX3_greatestFitting, Cond.code yX3_greatestFitting cX3_greatestFitting 3 (some .int)]
def wsL_law_r16 : List Cond := [Cond.methodLink RX3 77 yX3_plans, Cond.methodLink RX3 81 yX3_firstOver, Cond.methodLink RX3 84 yX3_step, Cond.methodLink RL 58 yX5_price, Cond.instanceMethod yX5_price, Cond.selects RX5 yX5_price yX5_price, Cond.code yX5_price cX5_price 5 (some .int), Cond.methodLink RX5 134 yX5_value, Cond.methodLink RL 59 yX4_weight, Cond.instanceMethod yX4_weight, Cond.selects RX4 yX4_weight yX4_weight, Cond.code yX4_weight cX4_weight 2 (some .int), Cond.methodLink RX4 139 yX2_gainWithout, Cond.instanceMethod yX2_gainWithout, Cond.selects RX2 yX2_gainWithout yX2_gainWithout, Cond.code yX2_gainWithout cX2_gainWithout 2 (some .int), Cond.methodLink RL 62 yX5_weight, Cond.instanceMethod yX5_weight, Cond.selects RX5 yX5_weight yX5_weight, Cond.code yX5_weight cX5_weight 5 (some .int), Cond.methodLink RL 63 yX4_rank, Cond.instanceMethod yX4_rank, Cond.selects RX4 yX4_rank yX4_rank, Cond.code yX4_rank cX4_rank 4 (some .int)]
def wsL_law_r17 : List Cond := [Cond.methodLink RX4 143 yX2_rulesAhead, Cond.instanceMethod yX2_rulesAhead, Cond.selects RX2 yX2_rulesAhead yX2_rulesAhead, Cond.code yX2_rulesAhead cX2_rulesAhead 7 (some .int), Cond.methodLink RX2 90 yX2_gainWithout, Cond.methodLink RL 66 yX5_rank, Cond.instanceMethod yX5_rank, Cond.selects RX5 yX5_rank yX5_rank, Cond.code yX5_rank cX5_rank 5 (some .int), Cond.methodLink RX5 138 yX5_weight, Cond.methodLink RL 67 yX4_more, Cond.instanceMethod yX4_more, Cond.selects RX4 yX4_more yX4_more, Cond.code yX4_more cX4_more 3 (some .int), Cond.methodLink RX4 146 yX3_allowOneMore, Cond.instanceMethod yX3_allowOneMore, Cond.selects RX3 yX3_allowOneMore yX3_allowOneMore, Cond.code yX3_allowOneMore cX3_allowOneMore 2 none, Cond.methodLink RL 70 yX5_more, Cond.instanceMethod yX5_more, Cond.selects RX5 yX5_more yX5_more, Cond.code yX5_more cX5_more 4 (some .int), Cond.methodLink RL 71 yX4_must, Cond.instanceMethod yX4_must]
def wsL_law_r18 : List Cond := [Cond.selects RX4 yX4_must yX4_must, Cond.code yX4_must cX4_must 3 (some .int), Cond.methodLink RX4 150 yX2_greatestWith, Cond.instanceMethod yX2_greatestWith, Cond.selects RX2 yX2_greatestWith yX2_greatestWith, Cond.code yX2_greatestWith cX2_greatestWith 3 (some .int), Cond.methodLink RL 74 yX5_must, Cond.instanceMethod yX5_must, Cond.selects RX5 yX5_must yX5_must, Cond.code yX5_must cX5_must 3 (some .int), Cond.methodLink RL 75 yX4_span, Cond.instanceMethod yX4_span, Cond.selects RX4 yX4_span yX4_span, Cond.code yX4_span cX4_span 4 (some .int), Cond.methodLink RX4 153 yX2_spanTop, Cond.instanceMethod yX2_spanTop, Cond.selects RX2 yX2_spanTop yX2_spanTop, Cond.code yX2_spanTop cX2_spanTop 8 (some .int), Cond.methodLink RX2 103 Lib.Math.min.name, Cond.methodLink RX2 93 yX2_greatestWith, Cond.methodLink RX2 96 yX2_restWith, Cond.instanceMethod yX2_restWith, Cond.selects RX2 yX2_restWith yX2_restWith, Cond.code yX2_restWith cX2_restWith 4 (some .int)]
def wsL_law_r19 : List Cond := [Cond.methodLink RX2 100 yJ9_floorDiv_7cf53, Cond.static yJ9_floorDiv_7cf53, Cond.initialized RJ9, Cond.code yJ9_floorDiv_7cf53 cJ9_floorDiv_7cf53 3 (some .int), Cond.methodLink RX4 156 yX2_spanBottom, Cond.instanceMethod yX2_spanBottom, Cond.selects RX2 yX2_spanBottom yX2_spanBottom, Cond.code yX2_spanBottom cX2_spanBottom 7 (some .int), Cond.methodLink RL 78 yX5_span, Cond.instanceMethod yX5_span, Cond.selects RX5 yX5_span yX5_span, Cond.code yX5_span cX5_span 9 (some .int), Cond.methodLink RX5 142 yX5_floor, Cond.static yX5_floor, Cond.code yX5_floor cX5_floor 2 (some .int), Cond.methodLink RL 79 yX4_put, Cond.instanceMethod yX4_put, Cond.selects RX4 yX4_put yX4_put, Cond.code yX4_put cX4_put 4 (some .int), Cond.methodLink RL 82 yX5_put, Cond.instanceMethod yX5_put, Cond.selects RX5 yX5_put yX5_put, Cond.code yX5_put cX5_put 4 (some .int), Cond.methodLink RL 83 yX4_worth]
def wsL_law_r20 : List Cond := [Cond.instanceMethod yX4_worth, Cond.selects RX4 yX4_worth yX4_worth, Cond.code yX4_worth cX4_worth 1 (some .int), Cond.fieldLink RX4 163 "RulePrices$Walk" "sum" "I", Cond.methodLink RX4 159 yX3_goTo, Cond.instanceMethod yX3_goTo, Cond.selects RX3 yX3_goTo yX3_goTo, Cond.code yX3_goTo cX3_goTo 3 none, Cond.methodLink RL 86 yX5_worth, Cond.instanceMethod yX5_worth, Cond.selects RX5 yX5_worth yX5_worth, Cond.code yX5_worth cX5_worth 1 (some .int), Cond.methodLink RL 87 yX4_broken, Cond.instanceMethod yX4_broken, Cond.selects RX4 yX4_broken yX4_broken, Cond.code yX4_broken cX4_broken 2 (some .int), Cond.methodLink RX4 166 yX3_firstOver, Cond.methodLink RL 90 yX5_broken, Cond.instanceMethod yX5_broken, Cond.selects RX5 yX5_broken yX5_broken, Cond.code yX5_broken cX5_broken 2 (some .int), Cond.methodLink RL 91 yX4_share, Cond.instanceMethod yX4_share, Cond.selects RX4 yX4_share yX4_share]
def wsL_law_r21 : List Cond := [Cond.code yX4_share cX4_share 4 (some .long), Cond.fieldLink RX4 176 "RulePrices$Corners" "tops" "[J", Cond.fieldLink RX4 180 "RulePrices$Corners" "belows" "[J", Cond.methodLink RX4 169 yX4_freshCorners, Cond.instanceMethod yX4_freshCorners, Cond.selects RX4 yX4_freshCorners yX4_freshCorners, Cond.code yX4_freshCorners cX4_freshCorners 1 (some (.object "RulePrices$Corners")), Cond.methodLink RX4 216 yX1_find, Cond.instanceMethod yX1_find, Cond.selects RX1 yX1_find yX1_find, Cond.code yX1_find cX1_find 4 none, Cond.fieldLink RX1 27 "RulePrices$Corners" "size" "I", Cond.fieldLink RX1 31 "RulePrices$Book" "rules" "I", Cond.fieldLink RX1 40 "RulePrices$Book" "things" "I", Cond.methodLink RX1 36 yX1_allCount, Cond.static yX1_allCount, Cond.code yX1_allCount cX1_allCount 3 (some .boolean), Cond.methodLink RX1 47 yX1_has, Cond.static yX1_has, Cond.code yX1_has cX1_has 2 (some .boolean), Cond.methodLink RX1 51 yX0_countsForShares, Cond.instanceMethod yX0_countsForShares, Cond.selects RX0 yX0_countsForShares yX0_countsForShares, Cond.code yX0_countsForShares cX0_countsForShares 2 (some .boolean)]
def wsL_law_r22 : List Cond := [Cond.methodLink RX1 43 yX1_tryCorner, Cond.instanceMethod yX1_tryCorner, Cond.selects RX1 yX1_tryCorner yX1_tryCorner, Cond.code yX1_tryCorner cX1_tryCorner 7 none, Cond.methodLink RX1 79 Lib.MathLoose.abs_long.x, Cond.static Lib.MathLoose.abs_long.x, Cond.code Lib.MathLoose.abs_long.x Lib.MathLoose.abs_long.code 2 (some .long), Cond.methodLink RX1 62 yJ6_bitCount_0f7a4, Cond.static yJ6_bitCount_0f7a4, Cond.initialized RJ6, Cond.code yJ6_bitCount_0f7a4 cJ6_bitCount_0f7a4 1 (some .int), Cond.constant RJ6 265 (1431655765), Cond.constant RJ6 266 (858993459), Cond.constant RJ6 267 (252645135), Cond.methodLink RX1 68 yX1_writeEquations, Cond.instanceMethod yX1_writeEquations, Cond.selects RX1 yX1_writeEquations yX1_writeEquations, Cond.code yX1_writeEquations cX1_writeEquations 8 none, Cond.fieldLink RX1 55 "RulePrices$Book" "worths" "[I", Cond.fieldLink RX1 59 "RulePrices$Book" "factors" "[I", Cond.methodLink RX1 71 yX1_determinant, Cond.static yX1_determinant, Cond.code yX1_determinant cX1_determinant 11 (some .long), Cond.methodLink RX1 75 yX1_writePrices]
def wsL_law_r23 : List Cond := [Cond.instanceMethod yX1_writePrices, Cond.selects RX1 yX1_writePrices yX1_writePrices, Cond.code yX1_writePrices cX1_writePrices 9 (some .boolean), Cond.methodLink RX1 89 yX1_swapDues, Cond.instanceMethod yX1_swapDues, Cond.selects RX1 yX1_swapDues yX1_swapDues, Cond.code yX1_swapDues cX1_swapDues 7 none, Cond.methodLink RX1 85 yX1_boundAt, Cond.instanceMethod yX1_boundAt, Cond.selects RX1 yX1_boundAt yX1_boundAt, Cond.code yX1_boundAt cX1_boundAt 9 (some .long), Cond.fieldLink RX1 93 "RulePrices$Book" "limits" "[I", Cond.fieldLink RX1 100 "RulePrices$Book" "mosts" "[I", Cond.methodLink RX1 103 Lib.MathLoose.max_long.x, Cond.static Lib.MathLoose.max_long.x, Cond.code Lib.MathLoose.max_long.x Lib.MathLoose.max_long.code 4 (some .long), Cond.methodLink RX1 96 yX1_slope, Cond.instanceMethod yX1_slope, Cond.selects RX1 yX1_slope yX1_slope, Cond.code yX1_slope cX1_slope 3 (some .long), Cond.methodLink RX4 173 yX1_leastBound, Cond.instanceMethod yX1_leastBound, Cond.selects RX1 yX1_leastBound yX1_leastBound, Cond.code yX1_leastBound cX1_leastBound 3 (some .int)]
def wsL_law_r24 : List Cond := [Cond.methodLink RX1 107 yX1_boundAbove, Cond.instanceMethod yX1_boundAbove, Cond.selects RX1 yX1_boundAbove yX1_boundAbove, Cond.code yX1_boundAbove cX1_boundAbove 3 (some .long), Cond.methodLink RX4 183 yX4_inLowestTerms, Cond.static yX4_inLowestTerms, Cond.code yX4_inLowestTerms cX4_inLowestTerms 7 (some .long), Cond.methodLink RX4 219 Lib.MathLoose.abs_long.x, Cond.methodLink RX4 225 yX4_commonDivisor, Cond.static yX4_commonDivisor, Cond.code yX4_commonDivisor cX4_commonDivisor 7 (some .long), Cond.methodLink RL 95 yX5_share, Cond.instanceMethod yX5_share, Cond.selects RX5 yX5_share yX5_share, Cond.code yX5_share cX5_share 2 (some .long), Cond.fieldLink RX5 176 "RulePricesModel" "shareSum" "J", Cond.fieldLink RX5 169 "RulePricesModel" "shareBelow" "J", Cond.methodLink RX5 182 yX5_shares, Cond.instanceMethod yX5_shares, Cond.selects RX5 yX5_shares yX5_shares, Cond.code yX5_shares cX5_shares 5 none, Cond.fieldLink RX5 146 "RulePricesModel" "rows" "I", Cond.fieldLink RX5 160 "RulePricesModel" "sum" "J", Cond.fieldLink RX5 156 "RulePricesModel" "below" "J"]
def wsL_law_r25 : List Cond := [Cond.fieldLink RX5 163 "RulePricesModel" "price" "J", Cond.fieldLink RX5 179 "RulePricesModel" "sharePrice" "J", Cond.methodLink RX5 166 yX5_rowsNow, Cond.instanceMethod yX5_rowsNow, Cond.selects RX5 yX5_rowsNow yX5_rowsNow, Cond.code yX5_rowsNow cX5_rowsNow 4 none, Cond.methodLink RX5 149 yX5_addRow, Cond.instanceMethod yX5_addRow, Cond.selects RX5 yX5_addRow yX5_addRow, Cond.code yX5_addRow cX5_addRow 4 none, Cond.methodLink RX5 172 yX5_isPriced, Cond.instanceMethod yX5_isPriced, Cond.selects RX5 yX5_isPriced yX5_isPriced, Cond.code yX5_isPriced cX5_isPriced 9 (some .boolean), Cond.methodLink RX5 152 yX5_determinant, Cond.instanceMethod yX5_determinant, Cond.selects RX5 yX5_determinant yX5_determinant, Cond.code yX5_determinant cX5_determinant 13 (some .long), Cond.methodLink RX5 186 yX5_part, Cond.static yX5_part, Cond.code yX5_part cX5_part 11 (some .long), Cond.methodLink RL 96 yX4_sharePrice, Cond.instanceMethod yX4_sharePrice, Cond.selects RX4 yX4_sharePrice yX4_sharePrice]
def wsL_law_r26 : List Cond := [Cond.code yX4_sharePrice cX4_sharePrice 5 (some .long), Cond.constantLong RX4 187 (-1000001), Cond.methodLink RX4 189 yX1_leastBoundFlattest, Cond.instanceMethod yX1_leastBoundFlattest, Cond.selects RX1 yX1_leastBoundFlattest yX1_leastBoundFlattest, Cond.code yX1_leastBoundFlattest cX1_leastBoundFlattest 6 (some .int), Cond.methodLink RX1 110 yX1_slopeBelow, Cond.instanceMethod yX1_slopeBelow, Cond.selects RX1 yX1_slopeBelow yX1_slopeBelow, Cond.code yX1_slopeBelow cX1_slopeBelow 4 (some .long), Cond.methodLink RX4 192 yX1_slope, Cond.methodLink RL 100 yX5_sharePrice, Cond.instanceMethod yX5_sharePrice, Cond.selects RX5 yX5_sharePrice yX5_sharePrice, Cond.code yX5_sharePrice cX5_sharePrice 3 (some .long), Cond.constantLong RX5 193 (-1000001), Cond.methodLink RX5 190 yX5_isPrice, Cond.instanceMethod yX5_isPrice, Cond.selects RX5 yX5_isPrice yX5_isPrice, Cond.code yX5_isPrice cX5_isPrice 2 (some .boolean), Cond.methodLink RL 101 yX4_holds, Cond.instanceMethod yX4_holds, Cond.selects RX4 yX4_holds yX4_holds, Cond.code yX4_holds cX4_holds 3 (some .int)]
def wsL_law_r27 : List Cond := [Cond.methodLink RX4 196 yX1_reach, Cond.instanceMethod yX1_reach, Cond.selects RX1 yX1_reach yX1_reach, Cond.code yX1_reach cX1_reach 8 (some .int), Cond.constantLong RX1 114 (400), Cond.methodLink RX1 116 Lib.MathLoose.min_long.x, Cond.static Lib.MathLoose.min_long.x, Cond.code Lib.MathLoose.min_long.x Lib.MathLoose.min_long.code 4 (some .long), Cond.methodLink RL 104 yX5_holds, Cond.instanceMethod yX5_holds, Cond.selects RX5 yX5_holds yX5_holds, Cond.code yX5_holds cX5_holds 7 (some .int), Cond.constantLong RX5 195 (400), Cond.methodLink RL 105 yX4_gap, Cond.instanceMethod yX4_gap, Cond.selects RX4 yX4_gap yX4_gap, Cond.code yX4_gap cX4_gap 6 (some .long), Cond.methodLink RL 108 yX5_gap, Cond.instanceMethod yX5_gap, Cond.selects RX5 yX5_gap yX5_gap, Cond.code yX5_gap cX5_gap 2 (some .long), Cond.methodLink RL 109 yX4_told, Cond.instanceMethod yX4_told, Cond.selects RX4 yX4_told yX4_told]
def wsL_law_r28 : List Cond := [Cond.code yX4_told cX4_told 3 (some .int), Cond.methodLink RX4 199 yX4_toldCount, Cond.instanceMethod yX4_toldCount, Cond.selects RX4 yX4_toldCount yX4_toldCount, Cond.code yX4_toldCount cX4_toldCount 2 (some .int), Cond.methodLink RX4 202 yX0_rulesOn, Cond.instanceMethod yX0_rulesOn, Cond.selects RX0 yX0_rulesOn yX0_rulesOn, Cond.code yX0_rulesOn cX0_rulesOn 3 (some .int), Cond.methodLink RL 112 yX5_told, Cond.instanceMethod yX5_told, Cond.selects RX5 yX5_told yX5_told, Cond.code yX5_told cX5_told 4 (some .int), Cond.constantLong RX5 197 (10), Cond.constantLong RX5 199 (29), Cond.constantLong RX5 201 (30), Cond.constantLong RX5 203 (49)]
def wsL_law : List Cond := (wsL_law_r1 ++ (wsL_law_r2 ++ (wsL_law_r3 ++ (wsL_law_r4 ++ (wsL_law_r5 ++ (wsL_law_r6 ++ (wsL_law_r7 ++ (wsL_law_r8 ++ (wsL_law_r9 ++ (wsL_law_r10 ++ (wsL_law_r11 ++ (wsL_law_r12 ++ (wsL_law_r13 ++ (wsL_law_r14 ++ (wsL_law_r15 ++ (wsL_law_r16 ++ (wsL_law_r17 ++ (wsL_law_r18 ++ (wsL_law_r19 ++ (wsL_law_r20 ++ (wsL_law_r21 ++ (wsL_law_r22 ++ (wsL_law_r23 ++ (wsL_law_r24 ++ (wsL_law_r25 ++ (wsL_law_r26 ++ (wsL_law_r27 ++ wsL_law_r28))))))))))))))))))))))))))) ++ wsX40 ++ wsX50 ++ wsX00 ++ wsX30 ++ wsX20 ++ wsX10 ++ ([] : List Cond)
set_option maxRecDepth 20000 in
theorem wsL_law_in : ∀ w ∈ wsL_law, w ∈ lw_tbl := fun w h => (goodIn_p wsL_law [48, 51, 56, 119, 147, 187, 577, 236, 239, 242, 248, 252, 676, 681, 256, 259, 263, 267, 271, 688, 692, 697, 275, 279, 283, 701, 705, 287, 710, 291, 714, 295, 299, 303, 307, 311, 316, 320, 339, 324, 328, 331, 336, 343, 347, 351, 355, 718, 723, 727, 731, 735, 739, 359, 743, 363, 747, 367, 751, 371, 376, 380, 755, 387, 391, 760, 395, 399, 764, 404, 408, 769, 412, 416, 773, 420, 424, 429, 432, 437, 777, 780, 441, 784, 445, 449, 788, 453, 792, 458, 462, 466, 469, 472, 476, 480, 504, 483, 490, 493, 497, 501, 508, 515, 512, 519, 523, 526, 530, 796, 800, 804, 808, 812, 816, 819, 534, 539, 543, 823, 827, 548, 552, 556, 832, 560, 837, 564, 568, 572, 841] (by decide +kernel) (by decide +kernel) w h).1
theorem inlX0 : ∀ w ∈ wsX00, w ∈ wsL_law := fun _ h => List.mem_append_left _ (List.mem_append_left _ (List.mem_append_left _ (List.mem_append_left _ (List.mem_append_right _ h))))
theorem inX0 : ∀ w ∈ wsX00, w ∈ lw_tbl := fun w h => wsL_law_in w (inlX0 w h)
theorem inlX1 : ∀ w ∈ wsX10, w ∈ wsL_law := fun _ h => List.mem_append_left _ (List.mem_append_right _ h)
theorem inX1 : ∀ w ∈ wsX10, w ∈ lw_tbl := fun w h => wsL_law_in w (inlX1 w h)
theorem inlX2 : ∀ w ∈ wsX20, w ∈ wsL_law := fun _ h => List.mem_append_left _ (List.mem_append_left _ (List.mem_append_right _ h))
theorem inX2 : ∀ w ∈ wsX20, w ∈ lw_tbl := fun w h => wsL_law_in w (inlX2 w h)
theorem inlX3 : ∀ w ∈ wsX30, w ∈ wsL_law := fun _ h => List.mem_append_left _ (List.mem_append_left _ (List.mem_append_left _ (List.mem_append_right _ h)))
theorem inX3 : ∀ w ∈ wsX30, w ∈ lw_tbl := fun w h => wsL_law_in w (inlX3 w h)
theorem inlX4 : ∀ w ∈ wsX40, w ∈ wsL_law := fun _ h => List.mem_append_left _ (List.mem_append_left _ (List.mem_append_left _ (List.mem_append_left _ (List.mem_append_left _ (List.mem_append_left _ (List.mem_append_right _ h))))))
theorem inX4 : ∀ w ∈ wsX40, w ∈ lw_tbl := fun w h => wsL_law_in w (inlX4 w h)
theorem inlX5 : ∀ w ∈ wsX50, w ∈ wsL_law := fun _ h => List.mem_append_left _ (List.mem_append_left _ (List.mem_append_left _ (List.mem_append_left _ (List.mem_append_left _ (List.mem_append_right _ h)))))
theorem inX5 : ∀ w ∈ wsX50, w ∈ lw_tbl := fun w h => wsL_law_in w (inlX5 w h)
theorem inJ6 : ∀ w ∈ wsJ60, w ∈ lw_tbl := by decide +kernel
theorem inJ9 : ∀ w ∈ wsJ90, w ∈ lw_tbl := by decide +kernel
theorem inJ7 : ∀ w ∈ wsJ70, w ∈ lw_tbl := by decide +kernel
abbrev vwCl : List vw_C := [(RX0, TX0, 10), (RX1, TX1, 6), (RX2, TX2, 9), (RX3, TX3, 6), (RX4, TX4, 7), (RX5, TX5, 31)]

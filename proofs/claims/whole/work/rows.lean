section
-- ===== PART A: goes FIRST, ahead of the names: the tables' words, and 'selects' of the private methods out of them =====
/-- a private method of a class that the tables say can be made, by its rows of tables_1 -/
def lw_okq (q : MethodName × Nat) : Prop := (q.1.cls ≠ "java/lang/invoke/MethodHandle" ∧ q.1.cls ≠ "java/lang/invoke/VarHandle") ∧ Cond.instantiable q.1.cls q.2 ∈ tables_1 ∧ Cond.privateMethod q.1 ∈ tables_1 ∧ Cond.instanceMethod q.1 ∈ tables_1
theorem lw_p0 : lw_okq (⟨"RulePrices", "markChanged", "()V"⟩, 7) := ⟨⟨by decide +kernel, by decide +kernel⟩, List.mem_of_getElem? (i := 11) (by decide +kernel), List.mem_of_getElem? (i := 212) (by decide +kernel), List.mem_of_getElem? (i := 213) (by decide +kernel)⟩
theorem lw_p1 : lw_okq (⟨"RulePrices", "isThing", "(I)Z"⟩, 7) := ⟨⟨by decide +kernel, by decide +kernel⟩, List.mem_of_getElem? (i := 11) (by decide +kernel), List.mem_of_getElem? (i := 227) (by decide +kernel), List.mem_of_getElem? (i := 228) (by decide +kernel)⟩
theorem lw_p2 : lw_okq (⟨"RulePrices", "isRule", "(I)Z"⟩, 7) := ⟨⟨by decide +kernel, by decide +kernel⟩, List.mem_of_getElem? (i := 11) (by decide +kernel), List.mem_of_getElem? (i := 243) (by decide +kernel), List.mem_of_getElem? (i := 244) (by decide +kernel)⟩
theorem lw_p3 : lw_okq (⟨"RulePrices", "replace", "([III)I"⟩, 7) := ⟨⟨by decide +kernel, by decide +kernel⟩, List.mem_of_getElem? (i := 11) (by decide +kernel), List.mem_of_getElem? (i := 247) (by decide +kernel), List.mem_of_getElem? (i := 248) (by decide +kernel)⟩
theorem lw_p4 : lw_okq (⟨"RulePrices", "freshSurvey", "()LRulePrices$Survey;"⟩, 7) := ⟨⟨by decide +kernel, by decide +kernel⟩, List.mem_of_getElem? (i := 11) (by decide +kernel), List.mem_of_getElem? (i := 263) (by decide +kernel), List.mem_of_getElem? (i := 264) (by decide +kernel)⟩
theorem lw_p5 : lw_okq (⟨"RulePrices$Survey", "lookAt", "(LRulePrices$Walk;)V"⟩, 9) := ⟨⟨by decide +kernel, by decide +kernel⟩, List.mem_of_getElem? (i := 110) (by decide +kernel), List.mem_of_getElem? (i := 284) (by decide +kernel), List.mem_of_getElem? (i := 285) (by decide +kernel)⟩
theorem lw_p6 : lw_okq (⟨"RulePrices$Walk", "load", "(I)I"⟩, 6) := ⟨⟨by decide +kernel, by decide +kernel⟩, List.mem_of_getElem? (i := 82) (by decide +kernel), List.mem_of_getElem? (i := 292) (by decide +kernel), List.mem_of_getElem? (i := 293) (by decide +kernel)⟩
theorem lw_p7 : lw_okq (⟨"RulePrices$Survey", "noteFitting", "([II)V"⟩, 9) := ⟨⟨by decide +kernel, by decide +kernel⟩, List.mem_of_getElem? (i := 110) (by decide +kernel), List.mem_of_getElem? (i := 300) (by decide +kernel), List.mem_of_getElem? (i := 301) (by decide +kernel)⟩
theorem lw_p8 : lw_okq (⟨"RulePrices$Survey", "noteBetter", "([II)V"⟩, 9) := ⟨⟨by decide +kernel, by decide +kernel⟩, List.mem_of_getElem? (i := 110) (by decide +kernel), List.mem_of_getElem? (i := 307) (by decide +kernel), List.mem_of_getElem? (i := 308) (by decide +kernel)⟩
theorem lw_p9 : lw_okq (⟨"RulePrices$Survey", "noteEqual", "([I)V"⟩, 9) := ⟨⟨by decide +kernel, by decide +kernel⟩, List.mem_of_getElem? (i := 110) (by decide +kernel), List.mem_of_getElem? (i := 311) (by decide +kernel), List.mem_of_getElem? (i := 312) (by decide +kernel)⟩
theorem lw_p10 : lw_okq (⟨"RulePrices$Walk", "shift", "(II)V"⟩, 6) := ⟨⟨by decide +kernel, by decide +kernel⟩, List.mem_of_getElem? (i := 82) (by decide +kernel), List.mem_of_getElem? (i := 319) (by decide +kernel), List.mem_of_getElem? (i := 320) (by decide +kernel)⟩
theorem lw_p11 : lw_okq (⟨"RulePrices$Survey", "restWith", "(III)I"⟩, 9) := ⟨⟨by decide +kernel, by decide +kernel⟩, List.mem_of_getElem? (i := 110) (by decide +kernel), List.mem_of_getElem? (i := 393) (by decide +kernel), List.mem_of_getElem? (i := 394) (by decide +kernel)⟩
theorem lw_p12 : lw_okq (⟨"RulePrices", "freshCorners", "()LRulePrices$Corners;"⟩, 7) := ⟨⟨by decide +kernel, by decide +kernel⟩, List.mem_of_getElem? (i := 11) (by decide +kernel), List.mem_of_getElem? (i := 426) (by decide +kernel), List.mem_of_getElem? (i := 427) (by decide +kernel)⟩
theorem lw_p13 : lw_okq (⟨"RulePrices$Corners", "tryCorner", "(LRulePrices$Book;II)V"⟩, 6) := ⟨⟨by decide +kernel, by decide +kernel⟩, List.mem_of_getElem? (i := 150) (by decide +kernel), List.mem_of_getElem? (i := 444) (by decide +kernel), List.mem_of_getElem? (i := 445) (by decide +kernel)⟩
theorem lw_p14 : lw_okq (⟨"RulePrices$Corners", "writeEquations", "(LRulePrices$Book;II)V"⟩, 6) := ⟨⟨by decide +kernel, by decide +kernel⟩, List.mem_of_getElem? (i := 150) (by decide +kernel), List.mem_of_getElem? (i := 454) (by decide +kernel), List.mem_of_getElem? (i := 455) (by decide +kernel)⟩
theorem lw_p15 : lw_okq (⟨"RulePrices$Corners", "writePrices", "(IIJ)Z"⟩, 6) := ⟨⟨by decide +kernel, by decide +kernel⟩, List.mem_of_getElem? (i := 150) (by decide +kernel), List.mem_of_getElem? (i := 461) (by decide +kernel), List.mem_of_getElem? (i := 462) (by decide +kernel)⟩
def lw_privs_1 : List (MethodName × Nat) := [(⟨"RulePrices", "markChanged", "()V"⟩, 7), (⟨"RulePrices", "isThing", "(I)Z"⟩, 7), (⟨"RulePrices", "isRule", "(I)Z"⟩, 7), (⟨"RulePrices", "replace", "([III)I"⟩, 7), (⟨"RulePrices", "freshSurvey", "()LRulePrices$Survey;"⟩, 7), (⟨"RulePrices$Survey", "lookAt", "(LRulePrices$Walk;)V"⟩, 9), (⟨"RulePrices$Walk", "load", "(I)I"⟩, 6), (⟨"RulePrices$Survey", "noteFitting", "([II)V"⟩, 9), (⟨"RulePrices$Survey", "noteBetter", "([II)V"⟩, 9), (⟨"RulePrices$Survey", "noteEqual", "([I)V"⟩, 9), (⟨"RulePrices$Walk", "shift", "(II)V"⟩, 6), (⟨"RulePrices$Survey", "restWith", "(III)I"⟩, 9), (⟨"RulePrices", "freshCorners", "()LRulePrices$Corners;"⟩, 7), (⟨"RulePrices$Corners", "tryCorner", "(LRulePrices$Book;II)V"⟩, 6), (⟨"RulePrices$Corners", "writeEquations", "(LRulePrices$Book;II)V"⟩, 6), (⟨"RulePrices$Corners", "writePrices", "(IIJ)Z"⟩, 6)]
theorem lw_r1 : ∀ q ∈ lw_privs_1, lw_okq q := List.forall_mem_cons.mpr ⟨lw_p0, List.forall_mem_cons.mpr ⟨lw_p1, List.forall_mem_cons.mpr ⟨lw_p2, List.forall_mem_cons.mpr ⟨lw_p3, List.forall_mem_cons.mpr ⟨lw_p4, List.forall_mem_cons.mpr ⟨lw_p5, List.forall_mem_cons.mpr ⟨lw_p6, List.forall_mem_cons.mpr ⟨lw_p7, List.forall_mem_cons.mpr ⟨lw_p8, List.forall_mem_cons.mpr ⟨lw_p9, List.forall_mem_cons.mpr ⟨lw_p10, List.forall_mem_cons.mpr ⟨lw_p11, List.forall_mem_cons.mpr ⟨lw_p12, List.forall_mem_cons.mpr ⟨lw_p13, List.forall_mem_cons.mpr ⟨lw_p14, List.forall_mem_cons.mpr ⟨lw_p15, fun _ h => absurd h List.not_mem_nil⟩⟩⟩⟩⟩⟩⟩⟩⟩⟩⟩⟩⟩⟩⟩⟩
theorem lw_p16 : lw_okq (⟨"RulePrices$Corners", "swapDues", "(II)V"⟩, 6) := ⟨⟨by decide +kernel, by decide +kernel⟩, List.mem_of_getElem? (i := 150) (by decide +kernel), List.mem_of_getElem? (i := 465) (by decide +kernel), List.mem_of_getElem? (i := 466) (by decide +kernel)⟩
theorem lw_p17 : lw_okq (⟨"RulePrices$Corners", "boundAt", "(LRulePrices$Book;I)J"⟩, 6) := ⟨⟨by decide +kernel, by decide +kernel⟩, List.mem_of_getElem? (i := 150) (by decide +kernel), List.mem_of_getElem? (i := 472) (by decide +kernel), List.mem_of_getElem? (i := 473) (by decide +kernel)⟩
theorem lw_p18 : lw_okq (⟨"RulePrices$Corners", "boundAbove", "(II)J"⟩, 6) := ⟨⟨by decide +kernel, by decide +kernel⟩, List.mem_of_getElem? (i := 150) (by decide +kernel), List.mem_of_getElem? (i := 487) (by decide +kernel), List.mem_of_getElem? (i := 488) (by decide +kernel)⟩
theorem lw_p19 : lw_okq (⟨"RulePrices$Corners", "slopeBelow", "(III)J"⟩, 6) := ⟨⟨by decide +kernel, by decide +kernel⟩, List.mem_of_getElem? (i := 150) (by decide +kernel), List.mem_of_getElem? (i := 507) (by decide +kernel), List.mem_of_getElem? (i := 508) (by decide +kernel)⟩
theorem lw_p20 : lw_okq (⟨"RulePrices", "toldCount", "(I)I"⟩, 7) := ⟨⟨by decide +kernel, by decide +kernel⟩, List.mem_of_getElem? (i := 11) (by decide +kernel), List.mem_of_getElem? (i := 532) (by decide +kernel), List.mem_of_getElem? (i := 533) (by decide +kernel)⟩
theorem lw_p21 : lw_okq (⟨"RulePricesModel", "isThing", "(I)Z"⟩, 31) := ⟨⟨by decide +kernel, by decide +kernel⟩, List.mem_of_getElem? (i := 540) (by decide +kernel), List.mem_of_getElem? (i := 661) (by decide +kernel), List.mem_of_getElem? (i := 662) (by decide +kernel)⟩
theorem lw_p22 : lw_okq (⟨"RulePricesModel", "isRule", "(I)Z"⟩, 31) := ⟨⟨by decide +kernel, by decide +kernel⟩, List.mem_of_getElem? (i := 540) (by decide +kernel), List.mem_of_getElem? (i := 669) (by decide +kernel), List.mem_of_getElem? (i := 670) (by decide +kernel)⟩
theorem lw_p23 : lw_okq (⟨"RulePricesModel", "look", "(II)V"⟩, 31) := ⟨⟨by decide +kernel, by decide +kernel⟩, List.mem_of_getElem? (i := 540) (by decide +kernel), List.mem_of_getElem? (i := 687) (by decide +kernel), List.mem_of_getElem? (i := 688) (by decide +kernel)⟩
theorem lw_p24 : lw_okq (⟨"RulePricesModel", "fits", "([I)Z"⟩, 31) := ⟨⟨by decide +kernel, by decide +kernel⟩, List.mem_of_getElem? (i := 540) (by decide +kernel), List.mem_of_getElem? (i := 691) (by decide +kernel), List.mem_of_getElem? (i := 692) (by decide +kernel)⟩
theorem lw_p25 : lw_okq (⟨"RulePricesModel", "isAs", "(I[I)Z"⟩, 31) := ⟨⟨by decide +kernel, by decide +kernel⟩, List.mem_of_getElem? (i := 540) (by decide +kernel), List.mem_of_getElem? (i := 695) (by decide +kernel), List.mem_of_getElem? (i := 696) (by decide +kernel)⟩
theorem lw_p26 : lw_okq (⟨"RulePricesModel", "take", "()V"⟩, 31) := ⟨⟨by decide +kernel, by decide +kernel⟩, List.mem_of_getElem? (i := 540) (by decide +kernel), List.mem_of_getElem? (i := 699) (by decide +kernel), List.mem_of_getElem? (i := 700) (by decide +kernel)⟩
theorem lw_p27 : lw_okq (⟨"RulePricesModel", "valueOf", "([I)I"⟩, 31) := ⟨⟨by decide +kernel, by decide +kernel⟩, List.mem_of_getElem? (i := 540) (by decide +kernel), List.mem_of_getElem? (i := 703) (by decide +kernel), List.mem_of_getElem? (i := 704) (by decide +kernel)⟩
theorem lw_p28 : lw_okq (⟨"RulePricesModel", "shares", "(I)V"⟩, 31) := ⟨⟨by decide +kernel, by decide +kernel⟩, List.mem_of_getElem? (i := 540) (by decide +kernel), List.mem_of_getElem? (i := 764) (by decide +kernel), List.mem_of_getElem? (i := 765) (by decide +kernel)⟩
theorem lw_p29 : lw_okq (⟨"RulePricesModel", "rowsNow", "()V"⟩, 31) := ⟨⟨by decide +kernel, by decide +kernel⟩, List.mem_of_getElem? (i := 540) (by decide +kernel), List.mem_of_getElem? (i := 768) (by decide +kernel), List.mem_of_getElem? (i := 769) (by decide +kernel)⟩
theorem lw_p30 : lw_okq (⟨"RulePricesModel", "addRow", "(II)V"⟩, 31) := ⟨⟨by decide +kernel, by decide +kernel⟩, List.mem_of_getElem? (i := 540) (by decide +kernel), List.mem_of_getElem? (i := 772) (by decide +kernel), List.mem_of_getElem? (i := 773) (by decide +kernel)⟩
theorem lw_p31 : lw_okq (⟨"RulePricesModel", "isPriced", "(II)Z"⟩, 31) := ⟨⟨by decide +kernel, by decide +kernel⟩, List.mem_of_getElem? (i := 540) (by decide +kernel), List.mem_of_getElem? (i := 776) (by decide +kernel), List.mem_of_getElem? (i := 777) (by decide +kernel)⟩
def lw_privs_2 : List (MethodName × Nat) := [(⟨"RulePrices$Corners", "swapDues", "(II)V"⟩, 6), (⟨"RulePrices$Corners", "boundAt", "(LRulePrices$Book;I)J"⟩, 6), (⟨"RulePrices$Corners", "boundAbove", "(II)J"⟩, 6), (⟨"RulePrices$Corners", "slopeBelow", "(III)J"⟩, 6), (⟨"RulePrices", "toldCount", "(I)I"⟩, 7), (⟨"RulePricesModel", "isThing", "(I)Z"⟩, 31), (⟨"RulePricesModel", "isRule", "(I)Z"⟩, 31), (⟨"RulePricesModel", "look", "(II)V"⟩, 31), (⟨"RulePricesModel", "fits", "([I)Z"⟩, 31), (⟨"RulePricesModel", "isAs", "(I[I)Z"⟩, 31), (⟨"RulePricesModel", "take", "()V"⟩, 31), (⟨"RulePricesModel", "valueOf", "([I)I"⟩, 31), (⟨"RulePricesModel", "shares", "(I)V"⟩, 31), (⟨"RulePricesModel", "rowsNow", "()V"⟩, 31), (⟨"RulePricesModel", "addRow", "(II)V"⟩, 31), (⟨"RulePricesModel", "isPriced", "(II)Z"⟩, 31)]
theorem lw_r2 : ∀ q ∈ lw_privs_2, lw_okq q := List.forall_mem_cons.mpr ⟨lw_p16, List.forall_mem_cons.mpr ⟨lw_p17, List.forall_mem_cons.mpr ⟨lw_p18, List.forall_mem_cons.mpr ⟨lw_p19, List.forall_mem_cons.mpr ⟨lw_p20, List.forall_mem_cons.mpr ⟨lw_p21, List.forall_mem_cons.mpr ⟨lw_p22, List.forall_mem_cons.mpr ⟨lw_p23, List.forall_mem_cons.mpr ⟨lw_p24, List.forall_mem_cons.mpr ⟨lw_p25, List.forall_mem_cons.mpr ⟨lw_p26, List.forall_mem_cons.mpr ⟨lw_p27, List.forall_mem_cons.mpr ⟨lw_p28, List.forall_mem_cons.mpr ⟨lw_p29, List.forall_mem_cons.mpr ⟨lw_p30, List.forall_mem_cons.mpr ⟨lw_p31, fun _ h => absurd h List.not_mem_nil⟩⟩⟩⟩⟩⟩⟩⟩⟩⟩⟩⟩⟩⟩⟩⟩
theorem lw_p32 : lw_okq (⟨"RulePricesModel", "determinant", "(I)J"⟩, 31) := ⟨⟨by decide +kernel, by decide +kernel⟩, List.mem_of_getElem? (i := 540) (by decide +kernel), List.mem_of_getElem? (i := 780) (by decide +kernel), List.mem_of_getElem? (i := 781) (by decide +kernel)⟩
theorem lw_p33 : lw_okq (⟨"RulePricesModel", "isPrice", "(I)Z"⟩, 31) := ⟨⟨by decide +kernel, by decide +kernel⟩, List.mem_of_getElem? (i := 540) (by decide +kernel), List.mem_of_getElem? (i := 791) (by decide +kernel), List.mem_of_getElem? (i := 792) (by decide +kernel)⟩
def lw_privs_3 : List (MethodName × Nat) := [(⟨"RulePricesModel", "determinant", "(I)J"⟩, 31), (⟨"RulePricesModel", "isPrice", "(I)Z"⟩, 31)]
theorem lw_r3 : ∀ q ∈ lw_privs_3, lw_okq q := List.forall_mem_cons.mpr ⟨lw_p32, List.forall_mem_cons.mpr ⟨lw_p33, fun _ h => absurd h List.not_mem_nil⟩⟩
def lw_privs : List (MethodName × Nat) := lw_privs_1 ++ (lw_privs_2 ++ (lw_privs_3))
def lw_tbl : List Cond := k2_sels lw_privs ++ tables_1
theorem lw_privs_ok : ∀ q ∈ lw_privs, lw_okq q := by
  show ∀ q ∈ lw_privs_1 ++ (lw_privs_2 ++ (lw_privs_3)), lw_okq q
  exact List.forall_mem_append.mpr ⟨lw_r1, List.forall_mem_append.mpr ⟨lw_r2, lw_r3⟩⟩

/-! ===== BEGIN words of one list among another's, by their places ===== -/
theorem goodIn_r {big : List Cond} (ws : List Cond) (ps : List Nat) (hp : ws = ps.filterMap (fun i => big[i]?)) (h : ws.all goodWord = true) : GoodIn big ws := by
  intro w hw
  have h1 := List.all_eq_true.mp h w hw
  rw [hp] at hw
  obtain ⟨i, -, hi⟩ := List.mem_filterMap.mp hw
  have hm : w ∈ big := by first | exact List.mem_of_getElem? hi | exact List.getElem?_mem hi
  exact ⟨hm, good_of_word h1⟩
theorem goodIn_app {big a b : List Cond} (ha : GoodIn big a) (hb : GoodIn big b) : GoodIn big (a ++ b) := fun w h => (List.mem_append.mp h).elim (ha w) (hb w)
theorem goodIn_ca {big a b : List Cond} {c : Cond} (ha : GoodIn big (c :: a)) (hb : GoodIn big b) : GoodIn big (c :: (a ++ b)) := fun w h => (List.mem_cons.mp h).elim (fun e => ha w (List.mem_cons.mpr (Or.inl e))) (fun h => (List.mem_append.mp h).elim (fun h => ha w (List.mem_cons.mpr (Or.inr h))) (hb w))
theorem goodIn_sub {big ws : List Cond} (hm : ∀ w ∈ ws, w ∈ big) (h : ws.all goodWord = true) : GoodIn big ws := fun w hw => ⟨hm w hw, good_of_word (List.all_eq_true.mp h w hw)⟩
/-! ===== END ===== -/

/-! ===== BEGIN printed: names, fields, word lists, decode rows ===== -/
def RX0 : String := "RulePrices$Book"
def TX0 : u_T := fun k => match k with
  | 0 => ("RulePrices$Book", "things", "I", false)
  | 1 => ("RulePrices$Book", "rules", "I", false)
  | 2 => ("RulePrices$Book", "worths", "[I", true)
  | 3 => ("RulePrices$Book", "mosts", "[I", true)
  | 4 => ("RulePrices$Book", "kinds", "[I", true)
  | 5 => ("RulePrices$Book", "lefts", "[I", true)
  | 6 => ("RulePrices$Book", "rights", "[I", true)
  | 7 => ("RulePrices$Book", "limits", "[I", true)
  | 8 => ("RulePrices$Book", "ons", "[Z", true)
  | _ => ("RulePrices$Book", "factors", "[I", true)
def tyX0 : Nat → FieldType := fun k => match k with
  | 0 => .int
  | 1 => .int
  | 2 => .array .int
  | 3 => .array .int
  | 4 => .array .int
  | 5 => .array .int
  | 6 => .array .int
  | 7 => .array .int
  | 8 => .array .boolean
  | _ => .array .int
abbrev wsX00 : List Cond := u_ws RX0 TX0 10
theorem nmX0 : ∀ a, a < 10 → ∀ b, b < 10 → a ≠ b → (TX0 a).2.1 ≠ (TX0 b).2.1 := by decide +kernel
theorem tyX0_ok : ∀ k, k < 10 → parseFieldDescriptor (TX0 k).2.2.1 = some (tyX0 k) := by decide +kernel
abbrev cX0_init : ByteArray := prog_2_method_1_code
def yX0_init : MethodName := ⟨RX0, "<init>", "()V"⟩
abbrev cX0_addThing : ByteArray := prog_2_method_2_code
def yX0_addThing : MethodName := ⟨RX0, "addThing", "(II)I"⟩
abbrev cX0_addRule : ByteArray := prog_2_method_3_code
def yX0_addRule : MethodName := ⟨RX0, "addRule", "(II)I"⟩
abbrev cX0_pair : ByteArray := prog_2_method_4_code
def yX0_pair : MethodName := ⟨RX0, "pair", "(III)V"⟩
abbrev cX0_rulesOn : ByteArray := prog_2_method_5_code
def yX0_rulesOn : MethodName := ⟨RX0, "rulesOn", "()I"⟩
abbrev cX0_countsForShares : ByteArray := prog_2_method_6_code
def yX0_countsForShares : MethodName := ⟨RX0, "countsForShares", "(I)Z"⟩
def RX1 : String := "RulePrices$Corners"
def TX1 : u_T := fun k => match k with
  | 0 => ("RulePrices$Corners", "size", "I", false)
  | 1 => ("RulePrices$Corners", "tops", "[J", true)
  | 2 => ("RulePrices$Corners", "belows", "[J", true)
  | 3 => ("RulePrices$Corners", "slopes", "[J", true)
  | 4 => ("RulePrices$Corners", "cells", "[J", true)
  | _ => ("RulePrices$Corners", "dues", "[J", true)
def tyX1 : Nat → FieldType := fun k => match k with
  | 0 => .int
  | 1 => .array .long
  | 2 => .array .long
  | 3 => .array .long
  | 4 => .array .long
  | _ => .array .long
abbrev wsX10 : List Cond := u_ws RX1 TX1 6
theorem nmX1 : ∀ a, a < 6 → ∀ b, b < 6 → a ≠ b → (TX1 a).2.1 ≠ (TX1 b).2.1 := by decide +kernel
theorem tyX1_ok : ∀ k, k < 6 → parseFieldDescriptor (TX1 k).2.2.1 = some (tyX1 k) := by decide +kernel
abbrev cX1_init : ByteArray := prog_3_method_1_code
def yX1_init : MethodName := ⟨RX1, "<init>", "()V"⟩
abbrev cX1_find : ByteArray := prog_3_method_2_code
def yX1_find : MethodName := ⟨RX1, "find", "(LRulePrices$Book;)V"⟩
abbrev cX1_allCount : ByteArray := prog_3_method_3_code
def yX1_allCount : MethodName := ⟨RX1, "allCount", "(LRulePrices$Book;I)Z"⟩
abbrev cX1_has : ByteArray := prog_3_method_4_code
def yX1_has : MethodName := ⟨RX1, "has", "(II)Z"⟩
abbrev cX1_writeEquations : ByteArray := prog_3_method_5_code
def yX1_writeEquations : MethodName := ⟨RX1, "writeEquations", "(LRulePrices$Book;II)V"⟩
abbrev cX1_tryCorner : ByteArray := prog_3_method_6_code
def yX1_tryCorner : MethodName := ⟨RX1, "tryCorner", "(LRulePrices$Book;II)V"⟩
abbrev cX1_writePrices : ByteArray := prog_3_method_7_code
def yX1_writePrices : MethodName := ⟨RX1, "writePrices", "(IIJ)Z"⟩
abbrev cX1_swapDues : ByteArray := prog_3_method_8_code
def yX1_swapDues : MethodName := ⟨RX1, "swapDues", "(II)V"⟩
abbrev cX1_determinant : ByteArray := prog_3_method_9_code
def yX1_determinant : MethodName := ⟨RX1, "determinant", "([JIII)J"⟩
abbrev cX1_boundAt : ByteArray := prog_3_method_10_code
def yX1_boundAt : MethodName := ⟨RX1, "boundAt", "(LRulePrices$Book;I)J"⟩
abbrev cX1_slope : ByteArray := prog_3_method_11_code
def yX1_slope : MethodName := ⟨RX1, "slope", "(II)J"⟩
abbrev cX1_leastBound : ByteArray := prog_3_method_12_code
def yX1_leastBound : MethodName := ⟨RX1, "leastBound", "()I"⟩
abbrev cX1_leastBoundFlattest : ByteArray := prog_3_method_13_code
def yX1_leastBoundFlattest : MethodName := ⟨RX1, "leastBoundFlattest", "(I)I"⟩
abbrev cX1_reach : ByteArray := prog_3_method_14_code
def yX1_reach : MethodName := ⟨RX1, "reach", "(II)I"⟩
abbrev cX1_boundAbove : ByteArray := prog_3_method_15_code
def yX1_boundAbove : MethodName := ⟨RX1, "boundAbove", "(II)J"⟩
abbrev cX1_slopeBelow : ByteArray := prog_3_method_16_code
def yX1_slopeBelow : MethodName := ⟨RX1, "slopeBelow", "(III)J"⟩
def RX2 : String := "RulePrices$Survey"
def TX2 : u_T := fun k => match k with
  | 0 => ("RulePrices$Survey", "things", "I", false)
  | 1 => ("RulePrices$Survey", "all", "I", false)
  | 2 => ("RulePrices$Survey", "fitting", "I", false)
  | 3 => ("RulePrices$Survey", "best", "I", false)
  | 4 => ("RulePrices$Survey", "greatest", "I", false)
  | 5 => ("RulePrices$Survey", "firstBest", "[I", true)
  | 6 => ("RulePrices$Survey", "isFast", "[Z", true)
  | 7 => ("RulePrices$Survey", "withCount", "[I", true)
  | _ => ("RulePrices$Survey", "forbiddenBy", "[I", true)
def tyX2 : Nat → FieldType := fun k => match k with
  | 0 => .int
  | 1 => .int
  | 2 => .int
  | 3 => .int
  | 4 => .int
  | 5 => .array .int
  | 6 => .array .boolean
  | 7 => .array .int
  | _ => .array .int
abbrev wsX20 : List Cond := u_ws RX2 TX2 9
theorem nmX2 : ∀ a, a < 9 → ∀ b, b < 9 → a ≠ b → (TX2 a).2.1 ≠ (TX2 b).2.1 := by decide +kernel
theorem tyX2_ok : ∀ k, k < 9 → parseFieldDescriptor (TX2 k).2.2.1 = some (tyX2 k) := by decide +kernel
abbrev cX2_init : ByteArray := prog_4_method_1_code
def yX2_init : MethodName := ⟨RX2, "<init>", "()V"⟩
abbrev cX2_lookAtAll : ByteArray := prog_4_method_2_code
def yX2_lookAtAll : MethodName := ⟨RX2, "lookAtAll", "(LRulePrices$Walk;I)V"⟩
abbrev cX2_lookAt : ByteArray := prog_4_method_3_code
def yX2_lookAt : MethodName := ⟨RX2, "lookAt", "(LRulePrices$Walk;)V"⟩
abbrev cX2_noteFitting : ByteArray := prog_4_method_4_code
def yX2_noteFitting : MethodName := ⟨RX2, "noteFitting", "([II)V"⟩
abbrev cX2_noteBetter : ByteArray := prog_4_method_5_code
def yX2_noteBetter : MethodName := ⟨RX2, "noteBetter", "([II)V"⟩
abbrev cX2_noteEqual : ByteArray := prog_4_method_6_code
def yX2_noteEqual : MethodName := ⟨RX2, "noteEqual", "([I)V"⟩
abbrev cX2_greatestWith : ByteArray := prog_4_method_7_code
def yX2_greatestWith : MethodName := ⟨RX2, "greatestWith", "(II)I"⟩
abbrev cX2_gainWithout : ByteArray := prog_4_method_8_code
def yX2_gainWithout : MethodName := ⟨RX2, "gainWithout", "(I)I"⟩
abbrev cX2_rulesAhead : ByteArray := prog_4_method_9_code
def yX2_rulesAhead : MethodName := ⟨RX2, "rulesAhead", "(II)I"⟩
abbrev cX2_spanBottom : ByteArray := prog_4_method_10_code
def yX2_spanBottom : MethodName := ⟨RX2, "spanBottom", "(II)I"⟩
abbrev cX2_spanTop : ByteArray := prog_4_method_11_code
def yX2_spanTop : MethodName := ⟨RX2, "spanTop", "(II)I"⟩
abbrev cX2_restWith : ByteArray := prog_4_method_12_code
def yX2_restWith : MethodName := ⟨RX2, "restWith", "(III)I"⟩
def RX3 : String := "RulePrices$Walk"
def TX3 : u_T := fun k => match k with
  | 0 => ("RulePrices$Walk", "book", "LRulePrices$Book;", true)
  | 1 => ("RulePrices$Walk", "limits", "[I", true)
  | 2 => ("RulePrices$Walk", "mosts", "[I", true)
  | 3 => ("RulePrices$Walk", "loads", "[I", true)
  | 4 => ("RulePrices$Walk", "counts", "[I", true)
  | _ => ("RulePrices$Walk", "sum", "I", false)
def tyX3 : Nat → FieldType := fun k => match k with
  | 0 => .object "RulePrices$Book"
  | 1 => .array .int
  | 2 => .array .int
  | 3 => .array .int
  | 4 => .array .int
  | _ => .int
abbrev wsX30 : List Cond := u_ws RX3 TX3 6
theorem nmX3 : ∀ a, a < 6 → ∀ b, b < 6 → a ≠ b → (TX3 a).2.1 ≠ (TX3 b).2.1 := by decide +kernel
theorem tyX3_ok : ∀ k, k < 6 → parseFieldDescriptor (TX3 k).2.2.1 = some (tyX3 k) := by decide +kernel
abbrev cX3_init : ByteArray := prog_5_method_1_code
def yX3_init : MethodName := ⟨RX3, "<init>", "(LRulePrices$Book;)V"⟩
abbrev cX3_begin : ByteArray := prog_5_method_2_code
def yX3_begin : MethodName := ⟨RX3, "begin", "()V"⟩
abbrev cX3_loosen : ByteArray := prog_5_method_3_code
def yX3_loosen : MethodName := ⟨RX3, "loosen", "(II)V"⟩
abbrev cX3_allowOneMore : ByteArray := prog_5_method_4_code
def yX3_allowOneMore : MethodName := ⟨RX3, "allowOneMore", "(I)V"⟩
abbrev cX3_goTo : ByteArray := prog_5_method_5_code
def yX3_goTo : MethodName := ⟨RX3, "goTo", "([I)V"⟩
abbrev cX3_plans : ByteArray := prog_5_method_6_code
def yX3_plans : MethodName := ⟨RX3, "plans", "()I"⟩
abbrev cX3_step : ByteArray := prog_5_method_7_code
def yX3_step : MethodName := ⟨RX3, "step", "()V"⟩
abbrev cX3_shift : ByteArray := prog_5_method_8_code
def yX3_shift : MethodName := ⟨RX3, "shift", "(II)V"⟩
abbrev cX3_firstOver : ByteArray := prog_5_method_9_code
def yX3_firstOver : MethodName := ⟨RX3, "firstOver", "(I)I"⟩
abbrev cX3_load : ByteArray := prog_5_method_10_code
def yX3_load : MethodName := ⟨RX3, "load", "(I)I"⟩
abbrev cX3_greatestFitting : ByteArray := prog_5_method_11_code
def yX3_greatestFitting : MethodName := ⟨RX3, "greatestFitting", "()I"⟩
def RX4 : String := "RulePrices"
def TX4 : u_T := fun k => match k with
  | 0 => ("RulePrices", "book", "LRulePrices$Book;", true)
  | 1 => ("RulePrices", "walk", "LRulePrices$Walk;", true)
  | 2 => ("RulePrices", "survey", "LRulePrices$Survey;", true)
  | 3 => ("RulePrices", "corners", "LRulePrices$Corners;", true)
  | 4 => ("RulePrices", "putCounts", "[I", true)
  | 5 => ("RulePrices", "surveyIsFresh", "Z", false)
  | _ => ("RulePrices", "cornersAreFresh", "Z", false)
def tyX4 : Nat → FieldType := fun k => match k with
  | 0 => .object "RulePrices$Book"
  | 1 => .object "RulePrices$Walk"
  | 2 => .object "RulePrices$Survey"
  | 3 => .object "RulePrices$Corners"
  | 4 => .array .int
  | 5 => .boolean
  | _ => .boolean
abbrev wsX40 : List Cond := u_ws RX4 TX4 7
theorem nmX4 : ∀ a, a < 7 → ∀ b, b < 7 → a ≠ b → (TX4 a).2.1 ≠ (TX4 b).2.1 := by decide +kernel
theorem tyX4_ok : ∀ k, k < 7 → parseFieldDescriptor (TX4 k).2.2.1 = some (tyX4 k) := by decide +kernel
abbrev cX4_init : ByteArray := prog_1_method_1_code
def yX4_init : MethodName := ⟨RX4, "<init>", "()V"⟩
abbrev cX4_thing : ByteArray := prog_1_method_2_code
def yX4_thing : MethodName := ⟨RX4, "thing", "(II)I"⟩
abbrev cX4_rule : ByteArray := prog_1_method_3_code
def yX4_rule : MethodName := ⟨RX4, "rule", "(IIII)I"⟩
abbrev cX4_amount : ByteArray := prog_1_method_4_code
def yX4_amount : MethodName := ⟨RX4, "amount", "(III)I"⟩
abbrev cX4_on : ByteArray := prog_1_method_5_code
def yX4_on : MethodName := ⟨RX4, "on", "(IZ)I"⟩
abbrev cX4_set : ByteArray := prog_1_method_6_code
def yX4_set : MethodName := ⟨RX4, "set", "(III)I"⟩
abbrev cX4_value : ByteArray := prog_1_method_7_code
def yX4_value : MethodName := ⟨RX4, "value", "()I"⟩
abbrev cX4_counted : ByteArray := prog_1_method_8_code
def yX4_counted : MethodName := ⟨RX4, "counted", "(I)I"⟩
abbrev cX4_first : ByteArray := prog_1_method_9_code
def yX4_first : MethodName := ⟨RX4, "first", "(I)I"⟩
abbrev cX4_fast : ByteArray := prog_1_method_10_code
def yX4_fast : MethodName := ⟨RX4, "fast", "(I)I"⟩
abbrev cX4_price : ByteArray := prog_1_method_11_code
def yX4_price : MethodName := ⟨RX4, "price", "(II)I"⟩
abbrev cX4_weight : ByteArray := prog_1_method_12_code
def yX4_weight : MethodName := ⟨RX4, "weight", "(I)I"⟩
abbrev cX4_rank : ByteArray := prog_1_method_13_code
def yX4_rank : MethodName := ⟨RX4, "rank", "(I)I"⟩
abbrev cX4_more : ByteArray := prog_1_method_14_code
def yX4_more : MethodName := ⟨RX4, "more", "(I)I"⟩
abbrev cX4_must : ByteArray := prog_1_method_15_code
def yX4_must : MethodName := ⟨RX4, "must", "(II)I"⟩
abbrev cX4_span : ByteArray := prog_1_method_16_code
def yX4_span : MethodName := ⟨RX4, "span", "(IZ)I"⟩
abbrev cX4_put : ByteArray := prog_1_method_17_code
def yX4_put : MethodName := ⟨RX4, "put", "(II)I"⟩
abbrev cX4_worth : ByteArray := prog_1_method_18_code
def yX4_worth : MethodName := ⟨RX4, "worth", "()I"⟩
abbrev cX4_broken : ByteArray := prog_1_method_19_code
def yX4_broken : MethodName := ⟨RX4, "broken", "()I"⟩
abbrev cX4_share : ByteArray := prog_1_method_20_code
def yX4_share : MethodName := ⟨RX4, "share", "(Z)J"⟩
abbrev cX4_sharePrice : ByteArray := prog_1_method_21_code
def yX4_sharePrice : MethodName := ⟨RX4, "sharePrice", "(IZ)J"⟩
abbrev cX4_holds : ByteArray := prog_1_method_22_code
def yX4_holds : MethodName := ⟨RX4, "holds", "(I)I"⟩
abbrev cX4_gap : ByteArray := prog_1_method_23_code
def yX4_gap : MethodName := ⟨RX4, "gap", "(Z)J"⟩
abbrev cX4_told : ByteArray := prog_1_method_24_code
def yX4_told : MethodName := ⟨RX4, "told", "(I)I"⟩
abbrev cX4_toldCount : ByteArray := prog_1_method_25_code
def yX4_toldCount : MethodName := ⟨RX4, "toldCount", "(I)I"⟩
abbrev cX4_isThing : ByteArray := prog_1_method_26_code
def yX4_isThing : MethodName := ⟨RX4, "isThing", "(I)Z"⟩
abbrev cX4_isRule : ByteArray := prog_1_method_27_code
def yX4_isRule : MethodName := ⟨RX4, "isRule", "(I)Z"⟩
abbrev cX4_isWorth : ByteArray := prog_1_method_28_code
def yX4_isWorth : MethodName := ⟨RX4, "isWorth", "(I)Z"⟩
abbrev cX4_isCount : ByteArray := prog_1_method_29_code
def yX4_isCount : MethodName := ⟨RX4, "isCount", "(I)Z"⟩
abbrev cX4_isLimit : ByteArray := prog_1_method_30_code
def yX4_isLimit : MethodName := ⟨RX4, "isLimit", "(IJ)Z"⟩
abbrev cX4_replace : ByteArray := prog_1_method_31_code
def yX4_replace : MethodName := ⟨RX4, "replace", "([III)I"⟩
abbrev cX4_markChanged : ByteArray := prog_1_method_32_code
def yX4_markChanged : MethodName := ⟨RX4, "markChanged", "()V"⟩
abbrev cX4_freshSurvey : ByteArray := prog_1_method_33_code
def yX4_freshSurvey : MethodName := ⟨RX4, "freshSurvey", "()LRulePrices$Survey;"⟩
abbrev cX4_freshCorners : ByteArray := prog_1_method_34_code
def yX4_freshCorners : MethodName := ⟨RX4, "freshCorners", "()LRulePrices$Corners;"⟩
abbrev cX4_inLowestTerms : ByteArray := prog_1_method_35_code
def yX4_inLowestTerms : MethodName := ⟨RX4, "inLowestTerms", "(JJZ)J"⟩
abbrev cX4_commonDivisor : ByteArray := prog_1_method_36_code
def yX4_commonDivisor : MethodName := ⟨RX4, "commonDivisor", "(JJ)J"⟩
def RX5 : String := "RulePricesModel"
def TX5 : u_T := fun k => match k with
  | 0 => ("RulePricesModel", "things", "I", false)
  | 1 => ("RulePricesModel", "worth", "[I", true)
  | 2 => ("RulePricesModel", "most", "[I", true)
  | 3 => ("RulePricesModel", "rules", "I", false)
  | 4 => ("RulePricesModel", "kind", "[I", true)
  | 5 => ("RulePricesModel", "one", "[I", true)
  | 6 => ("RulePricesModel", "other", "[I", true)
  | 7 => ("RulePricesModel", "limit", "[I", true)
  | 8 => ("RulePricesModel", "isOn", "[Z", true)
  | 9 => ("RulePricesModel", "amount", "[I", true)
  | 10 => ("RulePricesModel", "told", "[I", true)
  | 11 => ("RulePricesModel", "now", "[I", true)
  | 12 => ("RulePricesModel", "best", "I", false)
  | 13 => ("RulePricesModel", "bestMany", "I", false)
  | 14 => ("RulePricesModel", "first", "[I", true)
  | 15 => ("RulePricesModel", "isSame", "[Z", true)
  | 16 => ("RulePricesModel", "fitMany", "I", false)
  | 17 => ("RulePricesModel", "allMany", "I", false)
  | 18 => ("RulePricesModel", "weights", "[I", true)
  | 19 => ("RulePricesModel", "rows", "I", false)
  | 20 => ("RulePricesModel", "row", "[I", true)
  | 21 => ("RulePricesModel", "bound", "[I", true)
  | 22 => ("RulePricesModel", "ruleOf", "[I", true)
  | 23 => ("RulePricesModel", "chosen", "[I", true)
  | 24 => ("RulePricesModel", "work", "[J", true)
  | 25 => ("RulePricesModel", "sum", "J", false)
  | 26 => ("RulePricesModel", "price", "J", false)
  | 27 => ("RulePricesModel", "below", "J", false)
  | 28 => ("RulePricesModel", "shareSum", "J", false)
  | 29 => ("RulePricesModel", "sharePrice", "J", false)
  | _ => ("RulePricesModel", "shareBelow", "J", false)
def tyX5 : Nat → FieldType := fun k => match k with
  | 0 => .int
  | 1 => .array .int
  | 2 => .array .int
  | 3 => .int
  | 4 => .array .int
  | 5 => .array .int
  | 6 => .array .int
  | 7 => .array .int
  | 8 => .array .boolean
  | 9 => .array .int
  | 10 => .array .int
  | 11 => .array .int
  | 12 => .int
  | 13 => .int
  | 14 => .array .int
  | 15 => .array .boolean
  | 16 => .int
  | 17 => .int
  | 18 => .array .int
  | 19 => .int
  | 20 => .array .int
  | 21 => .array .int
  | 22 => .array .int
  | 23 => .array .int
  | 24 => .array .long
  | 25 => .long
  | 26 => .long
  | 27 => .long
  | 28 => .long
  | 29 => .long
  | _ => .long
abbrev wsX50 : List Cond := u_ws RX5 TX5 31
theorem nmX5 : ∀ a, a < 31 → ∀ b, b < 31 → a ≠ b → (TX5 a).2.1 ≠ (TX5 b).2.1 := by decide +kernel
theorem tyX5_ok : ∀ k, k < 31 → parseFieldDescriptor (TX5 k).2.2.1 = some (tyX5 k) := by decide +kernel
abbrev cX5_init : ByteArray := prog_7_method_1_code
def yX5_init : MethodName := ⟨RX5, "<init>", "()V"⟩
abbrev cX5_in : ByteArray := prog_7_method_2_code
def yX5_in : MethodName := ⟨RX5, "in", "(JJJ)Z"⟩
abbrev cX5_isThing : ByteArray := prog_7_method_3_code
def yX5_isThing : MethodName := ⟨RX5, "isThing", "(I)Z"⟩
abbrev cX5_isRule : ByteArray := prog_7_method_4_code
def yX5_isRule : MethodName := ⟨RX5, "isRule", "(I)Z"⟩
abbrev cX5_isLimit : ByteArray := prog_7_method_5_code
def yX5_isLimit : MethodName := ⟨RX5, "isLimit", "(IJ)Z"⟩
abbrev cX5_thing : ByteArray := prog_7_method_6_code
def yX5_thing : MethodName := ⟨RX5, "thing", "(II)I"⟩
abbrev cX5_rule : ByteArray := prog_7_method_7_code
def yX5_rule : MethodName := ⟨RX5, "rule", "(IIII)I"⟩
abbrev cX5_amount : ByteArray := prog_7_method_8_code
def yX5_amount : MethodName := ⟨RX5, "amount", "(III)I"⟩
abbrev cX5_on : ByteArray := prog_7_method_9_code
def yX5_on : MethodName := ⟨RX5, "on", "(IZ)I"⟩
abbrev cX5_set : ByteArray := prog_7_method_10_code
def yX5_set : MethodName := ⟨RX5, "set", "(III)I"⟩
abbrev cX5_isAs : ByteArray := prog_7_method_11_code
def yX5_isAs : MethodName := ⟨RX5, "isAs", "(I[I)Z"⟩
abbrev cX5_fits : ByteArray := prog_7_method_12_code
def yX5_fits : MethodName := ⟨RX5, "fits", "([I)Z"⟩
abbrev cX5_valueOf : ByteArray := prog_7_method_13_code
def yX5_valueOf : MethodName := ⟨RX5, "valueOf", "([I)I"⟩
abbrev cX5_look : ByteArray := prog_7_method_14_code
def yX5_look : MethodName := ⟨RX5, "look", "(II)V"⟩
abbrev cX5_take : ByteArray := prog_7_method_15_code
def yX5_take : MethodName := ⟨RX5, "take", "()V"⟩
abbrev cX5_value : ByteArray := prog_7_method_16_code
def yX5_value : MethodName := ⟨RX5, "value", "()I"⟩
abbrev cX5_counted : ByteArray := prog_7_method_17_code
def yX5_counted : MethodName := ⟨RX5, "counted", "(I)I"⟩
abbrev cX5_first : ByteArray := prog_7_method_18_code
def yX5_first : MethodName := ⟨RX5, "first", "(I)I"⟩
abbrev cX5_fast : ByteArray := prog_7_method_19_code
def yX5_fast : MethodName := ⟨RX5, "fast", "(I)I"⟩
abbrev cX5_price : ByteArray := prog_7_method_20_code
def yX5_price : MethodName := ⟨RX5, "price", "(II)I"⟩
abbrev cX5_weight : ByteArray := prog_7_method_21_code
def yX5_weight : MethodName := ⟨RX5, "weight", "(I)I"⟩
abbrev cX5_rank : ByteArray := prog_7_method_22_code
def yX5_rank : MethodName := ⟨RX5, "rank", "(I)I"⟩
abbrev cX5_more : ByteArray := prog_7_method_23_code
def yX5_more : MethodName := ⟨RX5, "more", "(I)I"⟩
abbrev cX5_must : ByteArray := prog_7_method_24_code
def yX5_must : MethodName := ⟨RX5, "must", "(II)I"⟩
abbrev cX5_floor : ByteArray := prog_7_method_25_code
def yX5_floor : MethodName := ⟨RX5, "floor", "(II)I"⟩
abbrev cX5_span : ByteArray := prog_7_method_26_code
def yX5_span : MethodName := ⟨RX5, "span", "(IZ)I"⟩
abbrev cX5_put : ByteArray := prog_7_method_27_code
def yX5_put : MethodName := ⟨RX5, "put", "(II)I"⟩
abbrev cX5_worth : ByteArray := prog_7_method_28_code
def yX5_worth : MethodName := ⟨RX5, "worth", "()I"⟩
abbrev cX5_broken : ByteArray := prog_7_method_29_code
def yX5_broken : MethodName := ⟨RX5, "broken", "()I"⟩
abbrev cX5_addRow : ByteArray := prog_7_method_30_code
def yX5_addRow : MethodName := ⟨RX5, "addRow", "(II)V"⟩
abbrev cX5_rowsNow : ByteArray := prog_7_method_31_code
def yX5_rowsNow : MethodName := ⟨RX5, "rowsNow", "()V"⟩
abbrev cX5_determinant : ByteArray := prog_7_method_32_code
def yX5_determinant : MethodName := ⟨RX5, "determinant", "(I)J"⟩
abbrev cX5_isPriced : ByteArray := prog_7_method_33_code
def yX5_isPriced : MethodName := ⟨RX5, "isPriced", "(II)Z"⟩
abbrev cX5_shares : ByteArray := prog_7_method_34_code
def yX5_shares : MethodName := ⟨RX5, "shares", "(I)V"⟩
abbrev cX5_part : ByteArray := prog_7_method_35_code
def yX5_part : MethodName := ⟨RX5, "part", "(JJZ)J"⟩
abbrev cX5_share : ByteArray := prog_7_method_36_code
def yX5_share : MethodName := ⟨RX5, "share", "(Z)J"⟩
abbrev cX5_isPrice : ByteArray := prog_7_method_37_code
def yX5_isPrice : MethodName := ⟨RX5, "isPrice", "(I)Z"⟩
abbrev cX5_sharePrice : ByteArray := prog_7_method_38_code
def yX5_sharePrice : MethodName := ⟨RX5, "sharePrice", "(IZ)J"⟩
abbrev cX5_holds : ByteArray := prog_7_method_39_code
def yX5_holds : MethodName := ⟨RX5, "holds", "(I)I"⟩
abbrev cX5_gap : ByteArray := prog_7_method_40_code
def yX5_gap : MethodName := ⟨RX5, "gap", "(Z)J"⟩
abbrev cX5_told : ByteArray := prog_7_method_41_code
def yX5_told : MethodName := ⟨RX5, "told", "(I)I"⟩
def RJ6 : String := "java/lang/Integer"
def TJ6 : u_T := fun k => match k with
  | _ => ("", "", "", false)
def tyJ6 : Nat → FieldType := fun k => match k with
  | _ => .int
abbrev wsJ60 : List Cond := u_ws RJ6 TJ6 0
theorem nmJ6 : ∀ a, a < 0 → ∀ b, b < 0 → a ≠ b → (TJ6 a).2.1 ≠ (TJ6 b).2.1 := by decide +kernel
theorem tyJ6_ok : ∀ k, k < 0 → parseFieldDescriptor (TJ6 k).2.2.1 = some (tyJ6 k) := by decide +kernel
abbrev cJ6_bitCount_0f7a4 : ByteArray := prog_8_method_49_code
def yJ6_bitCount_0f7a4 : MethodName := ⟨RJ6, "bitCount", "(I)I"⟩
def RJ9 : String := "java/lang/Math"
def TJ9 : u_T := fun k => match k with
  | _ => ("", "", "", false)
def tyJ9 : Nat → FieldType := fun k => match k with
  | _ => .int
abbrev wsJ90 : List Cond := u_ws RJ9 TJ9 0
theorem nmJ9 : ∀ a, a < 0 → ∀ b, b < 0 → a ≠ b → (TJ9 a).2.1 ≠ (TJ9 b).2.1 := by decide +kernel
theorem tyJ9_ok : ∀ k, k < 0 → parseFieldDescriptor (TJ9 k).2.2.1 = some (tyJ9 k) := by decide +kernel
abbrev cJ9_floorDiv_7cf53 : ByteArray := prog_9_method_47_code
def yJ9_floorDiv_7cf53 : MethodName := ⟨RJ9, "floorDiv", "(II)I"⟩
abbrev cJ9_abs_067f4 : ByteArray := prog_9_method_61_code
def yJ9_abs_067f4 : MethodName := ⟨RJ9, "abs", "(J)J"⟩
abbrev cJ9_max_7cf53 : ByteArray := prog_9_method_65_code
def yJ9_max_7cf53 : MethodName := ⟨RJ9, "max", "(II)I"⟩
abbrev cJ9_max_f86c9 : ByteArray := prog_9_method_66_code
def yJ9_max_f86c9 : MethodName := ⟨RJ9, "max", "(JJ)J"⟩
abbrev cJ9_min_7cf53 : ByteArray := prog_9_method_69_code
def yJ9_min_7cf53 : MethodName := ⟨RJ9, "min", "(II)I"⟩
abbrev cJ9_min_f86c9 : ByteArray := prog_9_method_70_code
def yJ9_min_f86c9 : MethodName := ⟨RJ9, "min", "(JJ)J"⟩
def RJ7 : String := "java/util/Arrays"
def TJ7 : u_T := fun k => match k with
  | _ => ("", "", "", false)
def tyJ7 : Nat → FieldType := fun k => match k with
  | _ => .int
abbrev wsJ70 : List Cond := u_ws RJ7 TJ7 0
theorem nmJ7 : ∀ a, a < 0 → ∀ b, b < 0 → a ≠ b → (TJ7 a).2.1 ≠ (TJ7 b).2.1 := by decide +kernel
theorem tyJ7_ok : ∀ k, k < 0 → parseFieldDescriptor (TJ7 k).2.2.1 = some (tyJ7 k) := by decide +kernel
abbrev cJ7_fill_53178 : ByteArray := prog_10_method_103_code
def yJ7_fill_53178 : MethodName := ⟨RJ7, "fill", "([II)V"⟩
def RL : String := "RulePricesLaw"
abbrev cL_law : ByteArray := code
def yL_law : MethodName := ⟨RL, "law", "([I)Z"⟩
abbrev vwCl : List vw_C := [(RX0, TX0, 10), (RX1, TX1, 6), (RX2, TX2, 9), (RX3, TX3, 6), (RX4, TX4, 7), (RX5, TX5, 31)]
end
section
/-! the methods as data, what fields, constants and calls name; the shape of the cells -/
abbrev jj_M : Type := (MethodName × ByteArray) × (Nat × Option FieldType × Nat × Nat)
def jj_R : Nat → String
  | 0 => RX0
  | 1 => RX1
  | 2 => RX2
  | 3 => RX3
  | 4 => RX4
  | 5 => RX5
  | 6 => RJ6
  | 7 => RJ7
  | 8 => RL
  | 9 => RJ9
  | _ => ""
def mX0_addThing : jj_M := ((yX0_addThing, cX0_addThing), (4, (some .int), 0, 2))
def mX0_addRule : jj_M := ((yX0_addRule, cX0_addRule), (4, (some .int), 0, 2))
def mX0_pair : jj_M := ((yX0_pair, cX0_pair), (4, none, 0, 3))
def mX0_rulesOn : jj_M := ((yX0_rulesOn, cX0_rulesOn), (3, (some .int), 0, 0))
def mX0_countsForShares : jj_M := ((yX0_countsForShares, cX0_countsForShares), (2, (some .boolean), 0, 1))
def mX1_find : jj_M := ((yX1_find, cX1_find), (4, none, 1, 1))
def mX1_allCount : jj_M := ((yX1_allCount, cX1_allCount), (3, (some .boolean), 1, 2))
def mX1_has : jj_M := ((yX1_has, cX1_has), (2, (some .boolean), 1, 2))
def mX1_writeEquations : jj_M := ((yX1_writeEquations, cX1_writeEquations), (8, none, 1, 3))
def mX1_tryCorner : jj_M := ((yX1_tryCorner, cX1_tryCorner), (7, none, 1, 3))
def mX1_writePrices : jj_M := ((yX1_writePrices, cX1_writePrices), (9, (some .boolean), 1, 3))
def mX1_swapDues : jj_M := ((yX1_swapDues, cX1_swapDues), (7, none, 1, 2))
def mX1_determinant : jj_M := ((yX1_determinant, cX1_determinant), (11, (some .long), 1, 4))
def mX1_boundAt : jj_M := ((yX1_boundAt, cX1_boundAt), (9, (some .long), 1, 2))
def mX1_slope : jj_M := ((yX1_slope, cX1_slope), (3, (some .long), 1, 2))
def mX1_leastBound : jj_M := ((yX1_leastBound, cX1_leastBound), (3, (some .int), 1, 0))
def mX1_leastBoundFlattest : jj_M := ((yX1_leastBoundFlattest, cX1_leastBoundFlattest), (6, (some .int), 1, 1))
def mX1_reach : jj_M := ((yX1_reach, cX1_reach), (8, (some .int), 1, 2))
def mX1_boundAbove : jj_M := ((yX1_boundAbove, cX1_boundAbove), (3, (some .long), 1, 2))
def mX1_slopeBelow : jj_M := ((yX1_slopeBelow, cX1_slopeBelow), (4, (some .long), 1, 3))
def mX2_lookAtAll : jj_M := ((yX2_lookAtAll, cX2_lookAtAll), (4, none, 2, 2))
def mX2_lookAt : jj_M := ((yX2_lookAt, cX2_lookAt), (3, none, 2, 1))
def mX2_noteFitting : jj_M := ((yX2_noteFitting, cX2_noteFitting), (5, none, 2, 2))
def mX2_noteBetter : jj_M := ((yX2_noteBetter, cX2_noteBetter), (4, none, 2, 2))
def mX2_noteEqual : jj_M := ((yX2_noteEqual, cX2_noteEqual), (3, none, 2, 1))
def mX2_greatestWith : jj_M := ((yX2_greatestWith, cX2_greatestWith), (3, (some .int), 2, 2))
def mX2_gainWithout : jj_M := ((yX2_gainWithout, cX2_gainWithout), (2, (some .int), 2, 1))
def mX2_rulesAhead : jj_M := ((yX2_rulesAhead, cX2_rulesAhead), (7, (some .int), 2, 2))
def mX2_spanBottom : jj_M := ((yX2_spanBottom, cX2_spanBottom), (7, (some .int), 2, 2))
def mX2_spanTop : jj_M := ((yX2_spanTop, cX2_spanTop), (8, (some .int), 2, 2))
def mX2_restWith : jj_M := ((yX2_restWith, cX2_restWith), (4, (some .int), 2, 3))
def mX3_begin : jj_M := ((yX3_begin, cX3_begin), (2, none, 3, 0))
def mX3_loosen : jj_M := ((yX3_loosen, cX3_loosen), (3, none, 3, 2))
def mX3_allowOneMore : jj_M := ((yX3_allowOneMore, cX3_allowOneMore), (2, none, 3, 1))
def mX3_goTo : jj_M := ((yX3_goTo, cX3_goTo), (3, none, 3, 1))
def mX3_plans : jj_M := ((yX3_plans, cX3_plans), (3, (some .int), 3, 0))
def mX3_step : jj_M := ((yX3_step, cX3_step), (2, none, 3, 0))
def mX3_shift : jj_M := ((yX3_shift, cX3_shift), (4, none, 3, 2))
def mX3_firstOver : jj_M := ((yX3_firstOver, cX3_firstOver), (3, (some .int), 3, 1))
def mX3_load : jj_M := ((yX3_load, cX3_load), (2, (some .int), 3, 1))
def mX3_greatestFitting : jj_M := ((yX3_greatestFitting, cX3_greatestFitting), (3, (some .int), 3, 0))
def mX4_thing : jj_M := ((yX4_thing, cX4_thing), (3, (some .int), 4, 2))
def mX4_rule : jj_M := ((yX4_rule, cX4_rule), (6, (some .int), 4, 4))
def mX4_amount : jj_M := ((yX4_amount, cX4_amount), (4, (some .int), 4, 3))
def mX4_on : jj_M := ((yX4_on, cX4_on), (4, (some .int), 4, 2))
def mX4_set : jj_M := ((yX4_set, cX4_set), (4, (some .int), 4, 3))
def mX4_value : jj_M := ((yX4_value, cX4_value), (1, (some .int), 4, 0))
def mX4_counted : jj_M := ((yX4_counted, cX4_counted), (2, (some .int), 4, 1))
def mX4_first : jj_M := ((yX4_first, cX4_first), (2, (some .int), 4, 1))
def mX4_fast : jj_M := ((yX4_fast, cX4_fast), (2, (some .int), 4, 1))
def mX4_price : jj_M := ((yX4_price, cX4_price), (4, (some .int), 4, 2))
def mX4_weight : jj_M := ((yX4_weight, cX4_weight), (2, (some .int), 4, 1))
def mX4_rank : jj_M := ((yX4_rank, cX4_rank), (4, (some .int), 4, 1))
def mX4_more : jj_M := ((yX4_more, cX4_more), (3, (some .int), 4, 1))
def mX4_must : jj_M := ((yX4_must, cX4_must), (3, (some .int), 4, 2))
def mX4_span : jj_M := ((yX4_span, cX4_span), (4, (some .int), 4, 2))
def mX4_put : jj_M := ((yX4_put, cX4_put), (4, (some .int), 4, 2))
def mX4_worth : jj_M := ((yX4_worth, cX4_worth), (1, (some .int), 4, 0))
def mX4_broken : jj_M := ((yX4_broken, cX4_broken), (2, (some .int), 4, 0))
def mX4_share : jj_M := ((yX4_share, cX4_share), (4, (some .long), 4, 1))
def mX4_sharePrice : jj_M := ((yX4_sharePrice, cX4_sharePrice), (5, (some .long), 4, 2))
def mX4_holds : jj_M := ((yX4_holds, cX4_holds), (3, (some .int), 4, 1))
def mX4_gap : jj_M := ((yX4_gap, cX4_gap), (6, (some .long), 4, 1))
def mX4_told : jj_M := ((yX4_told, cX4_told), (3, (some .int), 4, 1))
def mX4_toldCount : jj_M := ((yX4_toldCount, cX4_toldCount), (2, (some .int), 4, 1))
def mX4_isThing : jj_M := ((yX4_isThing, cX4_isThing), (2, (some .boolean), 4, 1))
def mX4_isRule : jj_M := ((yX4_isRule, cX4_isRule), (2, (some .boolean), 4, 1))
def mX4_isWorth : jj_M := ((yX4_isWorth, cX4_isWorth), (1, (some .boolean), 4, 1))
def mX4_isCount : jj_M := ((yX4_isCount, cX4_isCount), (1, (some .boolean), 4, 1))
def mX4_isLimit : jj_M := ((yX4_isLimit, cX4_isLimit), (3, (some .boolean), 4, 2))
def mX4_replace : jj_M := ((yX4_replace, cX4_replace), (5, (some .int), 4, 3))
def mX4_markChanged : jj_M := ((yX4_markChanged, cX4_markChanged), (1, none, 4, 0))
def mX4_freshSurvey : jj_M := ((yX4_freshSurvey, cX4_freshSurvey), (1, (some (.object "RulePrices$Survey")), 4, 0))
def mX4_freshCorners : jj_M := ((yX4_freshCorners, cX4_freshCorners), (1, (some (.object "RulePrices$Corners")), 4, 0))
def mX4_inLowestTerms : jj_M := ((yX4_inLowestTerms, cX4_inLowestTerms), (7, (some .long), 4, 3))
def mX4_commonDivisor : jj_M := ((yX4_commonDivisor, cX4_commonDivisor), (7, (some .long), 4, 2))
def mX5_in : jj_M := ((yX5_in, cX5_in), (6, (some .boolean), 5, 3))
def mX5_isThing : jj_M := ((yX5_isThing, cX5_isThing), (2, (some .boolean), 5, 1))
def mX5_isRule : jj_M := ((yX5_isRule, cX5_isRule), (2, (some .boolean), 5, 1))
def mX5_isLimit : jj_M := ((yX5_isLimit, cX5_isLimit), (3, (some .boolean), 5, 2))
def mX5_thing : jj_M := ((yX5_thing, cX5_thing), (3, (some .int), 5, 2))
def mX5_rule : jj_M := ((yX5_rule, cX5_rule), (5, (some .int), 5, 4))
def mX5_amount : jj_M := ((yX5_amount, cX5_amount), (5, (some .int), 5, 3))
def mX5_on : jj_M := ((yX5_on, cX5_on), (4, (some .int), 5, 2))
def mX5_set : jj_M := ((yX5_set, cX5_set), (6, (some .int), 5, 3))
def mX5_isAs : jj_M := ((yX5_isAs, cX5_isAs), (5, (some .boolean), 5, 2))
def mX5_fits : jj_M := ((yX5_fits, cX5_fits), (3, (some .boolean), 5, 1))
def mX5_valueOf : jj_M := ((yX5_valueOf, cX5_valueOf), (4, (some .int), 5, 1))
def mX5_look : jj_M := ((yX5_look, cX5_look), (5, none, 5, 2))
def mX5_take : jj_M := ((yX5_take, cX5_take), (4, none, 5, 0))
def mX5_value : jj_M := ((yX5_value, cX5_value), (1, (some .int), 5, 0))
def mX5_counted : jj_M := ((yX5_counted, cX5_counted), (2, (some .int), 5, 1))
def mX5_first : jj_M := ((yX5_first, cX5_first), (2, (some .int), 5, 1))
def mX5_fast : jj_M := ((yX5_fast, cX5_fast), (2, (some .int), 5, 1))
def mX5_price : jj_M := ((yX5_price, cX5_price), (5, (some .int), 5, 2))
def mX5_weight : jj_M := ((yX5_weight, cX5_weight), (5, (some .int), 5, 1))
def mX5_rank : jj_M := ((yX5_rank, cX5_rank), (5, (some .int), 5, 1))
def mX5_more : jj_M := ((yX5_more, cX5_more), (4, (some .int), 5, 1))
def mX5_must : jj_M := ((yX5_must, cX5_must), (3, (some .int), 5, 2))
def mX5_floor : jj_M := ((yX5_floor, cX5_floor), (2, (some .int), 5, 2))
def mX5_span : jj_M := ((yX5_span, cX5_span), (9, (some .int), 5, 2))
def mX5_put : jj_M := ((yX5_put, cX5_put), (4, (some .int), 5, 2))
def mX5_worth : jj_M := ((yX5_worth, cX5_worth), (1, (some .int), 5, 0))
def mX5_broken : jj_M := ((yX5_broken, cX5_broken), (2, (some .int), 5, 0))
def mX5_addRow : jj_M := ((yX5_addRow, cX5_addRow), (4, none, 5, 2))
def mX5_rowsNow : jj_M := ((yX5_rowsNow, cX5_rowsNow), (4, none, 5, 0))
def mX5_determinant : jj_M := ((yX5_determinant, cX5_determinant), (13, (some .long), 5, 1))
def mX5_isPriced : jj_M := ((yX5_isPriced, cX5_isPriced), (9, (some .boolean), 5, 2))
def mX5_shares : jj_M := ((yX5_shares, cX5_shares), (5, none, 5, 1))
def mX5_part : jj_M := ((yX5_part, cX5_part), (11, (some .long), 5, 3))
def mX5_share : jj_M := ((yX5_share, cX5_share), (2, (some .long), 5, 1))
def mX5_isPrice : jj_M := ((yX5_isPrice, cX5_isPrice), (2, (some .boolean), 5, 1))
def mX5_sharePrice : jj_M := ((yX5_sharePrice, cX5_sharePrice), (3, (some .long), 5, 2))
def mX5_holds : jj_M := ((yX5_holds, cX5_holds), (7, (some .int), 5, 1))
def mX5_gap : jj_M := ((yX5_gap, cX5_gap), (2, (some .long), 5, 1))
def mX5_told : jj_M := ((yX5_told, cX5_told), (4, (some .int), 5, 1))
def mJ6_bitCount_0f7a4 : jj_M := ((yJ6_bitCount_0f7a4, cJ6_bitCount_0f7a4), (1, (some .int), 6, 1))
def mJ9_floorDiv_7cf53 : jj_M := ((yJ9_floorDiv_7cf53, cJ9_floorDiv_7cf53), (3, (some .int), 9, 2))
def mJ9_abs_067f4 : jj_M := ((yJ9_abs_067f4, cJ9_abs_067f4), (2, (some .long), 9, 1))
def mJ9_max_7cf53 : jj_M := ((yJ9_max_7cf53, cJ9_max_7cf53), (2, (some .int), 9, 2))
def mJ9_max_f86c9 : jj_M := ((yJ9_max_f86c9, cJ9_max_f86c9), (4, (some .long), 9, 2))
def mJ9_min_7cf53 : jj_M := ((yJ9_min_7cf53, cJ9_min_7cf53), (2, (some .int), 9, 2))
def mJ9_min_f86c9 : jj_M := ((yJ9_min_f86c9, cJ9_min_f86c9), (4, (some .long), 9, 2))
def mJ7_fill_53178 : jj_M := ((yJ7_fill_53178, cJ7_fill_53178), (4, none, 7, 2))
def mL_law : jj_M := ((yL_law, cL_law), (4, (some .boolean), 8, 1))
def jj_fl : Nat → List (Nat × Nat × Nat)
  | 0 => [(9, 0, 2), (15, 0, 3), (18, 0, 4), (21, 0, 5), (24, 0, 6), (27, 0, 7), (30, 0, 8), (34, 0, 9), (37, 0, 0), (41, 0, 1)]
  | 1 => [(11, 1, 1), (15, 1, 2), (18, 1, 3), (21, 1, 4), (24, 1, 5), (27, 1, 0), (31, 0, 1), (40, 0, 0), (55, 0, 2), (59, 0, 9), (93, 0, 7), (100, 0, 3)]
  | 2 => [(9, 2, 5), (15, 2, 6), (19, 2, 7), (22, 2, 8), (25, 2, 0), (29, 2, 2), (32, 2, 3), (36, 2, 4), (54, 2, 1), (68, 3, 4), (71, 3, 5)]
  | 3 => [(9, 3, 1), (15, 3, 2), (18, 3, 3), (21, 3, 4), (24, 3, 0), (28, 0, 1), (34, 0, 8), (38, 0, 7), (40, 0, 0), (43, 0, 3), (44, 3, 5), (51, 0, 2), (54, 0, 9), (62, 0, 4), (65, 0, 5), (68, 0, 6)]
  | 4 => [(10, 4, 0), (21, 4, 1), (28, 4, 2), (35, 4, 3), (39, 4, 4), (51, 0, 0), (70, 0, 1), (83, 0, 4), (86, 0, 9), (93, 0, 8), (97, 0, 7), (100, 0, 2), (103, 0, 3), (110, 2, 4), (113, 2, 3), (116, 2, 2), (119, 2, 1), (122, 2, 5), (125, 2, 6), (163, 3, 5), (176, 1, 1), (180, 1, 2), (205, 4, 5), (209, 4, 6)]
  | 5 => [(7, 5, 1), (13, 5, 2), (16, 5, 4), (19, 5, 5), (22, 5, 6), (25, 5, 7), (28, 5, 8), (32, 5, 9), (35, 5, 10), (38, 5, 11), (41, 5, 14), (44, 5, 15), (47, 5, 18), (50, 5, 20), (53, 5, 21), (56, 5, 22), (59, 5, 23), (62, 5, 24), (66, 5, 0), (74, 5, 3), (107, 5, 12), (110, 5, 13), (113, 5, 16), (116, 5, 17), (146, 5, 19), (156, 5, 27), (160, 5, 25), (163, 5, 26), (169, 5, 30), (176, 5, 28), (179, 5, 29)]
  | _ => []
def jj_ldL : Nat → List (Nat × Int32)
  | 2 => [(35, -1000000)]
  | 3 => [(39, 1000000), (61, -1000000)]
  | 4 => [(50, -1000001), (55, -1000002)]
  | 5 => [(85, -1000001), (86, -1000002), (106, -1000000)]
  | 6 => [(265, 1431655765), (266, 858993459), (267, 252645135)]
  | _ => []
def jj_llL : Nat → List (Nat × Int64)
  | 1 => [(114, 400)]
  | 4 => [(187, -1000001)]
  | 5 => [(77, 999), (79, 9), (81, -99), (83, 99), (87, 2), (100, -9), (193, -1000001), (195, 400), (197, 10), (199, 29), (201, 30), (203, 49)]
  | _ => []
def jj_mvL : Nat → List (Nat × jj_M)
  | 1 => [(43, mX1_tryCorner), (51, mX0_countsForShares), (68, mX1_writeEquations), (75, mX1_writePrices), (85, mX1_boundAt), (89, mX1_swapDues), (96, mX1_slope), (107, mX1_boundAbove), (110, mX1_slopeBelow)]
  | 2 => [(45, mX3_begin), (50, mX3_plans), (57, mX2_lookAt), (61, mX3_step), (64, mX3_firstOver), (74, mX2_noteFitting), (83, mX2_noteBetter), (86, mX2_noteEqual), (90, mX2_gainWithout), (93, mX2_greatestWith), (96, mX2_restWith)]
  | 3 => [(47, mX3_shift), (57, mX3_load), (77, mX3_plans), (81, mX3_firstOver), (84, mX3_step)]
  | 4 => [(56, mX4_markChanged), (59, mX0_addThing), (67, mX4_isThing), (73, mX0_addRule), (76, mX0_pair), (80, mX4_isRule), (89, mX4_replace), (106, mX4_freshSurvey), (128, mX3_begin), (131, mX3_loosen), (135, mX3_greatestFitting), (139, mX2_gainWithout), (143, mX2_rulesAhead), (146, mX3_allowOneMore), (150, mX2_greatestWith), (153, mX2_spanTop), (156, mX2_spanBottom), (159, mX3_goTo), (166, mX3_firstOver), (169, mX4_freshCorners), (173, mX1_leastBound), (189, mX1_leastBoundFlattest), (192, mX1_slope), (196, mX1_reach), (199, mX4_toldCount), (202, mX0_rulesOn), (212, mX2_lookAtAll), (216, mX1_find)]
  | 5 => [(93, mX5_isThing), (97, mX5_isRule), (102, mX5_isAs), (119, mX5_fits), (123, mX5_take), (126, mX5_valueOf), (130, mX5_look), (134, mX5_value), (138, mX5_weight), (149, mX5_addRow), (152, mX5_determinant), (166, mX5_rowsNow), (172, mX5_isPriced), (182, mX5_shares), (190, mX5_isPrice)]
  | 8 => [(13, mX4_thing), (17, mX5_thing), (18, mX4_rule), (22, mX5_rule), (23, mX4_amount), (27, mX5_amount), (28, mX4_on), (32, mX5_on), (33, mX4_set), (36, mX5_set), (37, mX4_value), (41, mX5_value), (42, mX4_counted), (46, mX5_counted), (47, mX4_first), (50, mX5_first), (51, mX4_fast), (54, mX5_fast), (55, mX4_price), (58, mX5_price), (59, mX4_weight), (62, mX5_weight), (63, mX4_rank), (66, mX5_rank), (67, mX4_more), (70, mX5_more), (71, mX4_must), (74, mX5_must), (75, mX4_span), (78, mX5_span), (79, mX4_put), (82, mX5_put), (83, mX4_worth), (86, mX5_worth), (87, mX4_broken), (90, mX5_broken), (91, mX4_share), (95, mX5_share), (96, mX4_sharePrice), (100, mX5_sharePrice), (101, mX4_holds), (104, mX5_holds), (105, mX4_gap), (108, mX5_gap), (109, mX4_told), (112, mX5_told)]
  | _ => []
def jj_msL : Nat → List (Nat × jj_M)
  | 1 => [(36, mX1_allCount), (47, mX1_has), (62, mJ6_bitCount_0f7a4), (71, mX1_determinant), (79, mJ9_abs_067f4), (103, mJ9_max_f86c9), (116, mJ9_min_f86c9)]
  | 2 => [(39, mJ7_fill_53178), (77, mJ9_max_7cf53), (100, mJ9_floorDiv_7cf53), (103, mJ9_min_7cf53)]
  | 3 => [(71, mJ9_min_7cf53)]
  | 4 => [(43, mX4_isWorth), (47, mX4_isCount), (63, mX4_isLimit), (183, mX4_inLowestTerms), (219, mJ9_abs_067f4), (225, mX4_commonDivisor)]
  | 5 => [(70, mX5_in), (89, mX5_isLimit), (142, mX5_floor), (186, mX5_part)]
  | _ => []
def jj_sh : List (Nat ⊕ (FieldType × Nat)) := [.inl 4, .inl 0, .inr (.int, 4), .inr (.int, 4), .inr (.int, 6), .inr (.int, 6), .inr (.int, 6), .inr (.int, 6), .inr (.boolean, 6), .inr (.int, 24), .inl 3, .inr (.int, 6), .inr (.int, 4), .inr (.int, 6), .inr (.int, 4), .inl 2, .inr (.int, 4), .inr (.boolean, 4), .inr (.int, 40), .inr (.int, 6), .inl 1, .inr (.long, 210), .inr (.long, 210), .inr (.long, 1260), .inr (.long, 16), .inr (.long, 4), .inr (.int, 4), .inl 5, .inr (.int, 4), .inr (.int, 4), .inr (.int, 6), .inr (.int, 6), .inr (.int, 6), .inr (.int, 6), .inr (.boolean, 6), .inr (.int, 24), .inr (.int, 4), .inr (.int, 4), .inr (.int, 4), .inr (.boolean, 4), .inr (.int, 6), .inr (.int, 56), .inr (.int, 14), .inr (.int, 14), .inr (.int, 14), .inr (.long, 16)]
abbrev jj_nc : Nat := 46
def jj_nf : Nat → Nat
  | 0 => 10
  | 1 => 6
  | 2 => 9
  | 3 => 6
  | 4 => 7
  | 5 => 31
  | _ => 0
def jj_fty : Nat → Nat → FieldType
  | 0 => tyX0
  | 1 => tyX1
  | 2 => tyX2
  | 3 => tyX3
  | 4 => tyX4
  | 5 => tyX5
  | _ => fun _ => .int
/-- the cell that a field of an object names: it never changes -/
def jj_rfL : Nat → List Nat
  | 0 => [1, 10, 15, 20, 26, 0, 0]
  | 1 => [0, 0, 2, 3, 4, 5, 6, 7, 8, 9]
  | 10 => [1, 11, 12, 13, 14, 0]
  | 15 => [0, 0, 0, 0, 0, 16, 17, 18, 19]
  | 20 => [0, 21, 22, 23, 24, 25]
  | 27 => [0, 28, 29, 0, 30, 31, 32, 33, 34, 35, 36, 37, 0, 0, 38, 39, 0, 0, 40, 0, 41, 42, 43, 44, 45, 0, 0, 0, 0, 0, 0]
  | _ => []
def jj_rf (a k : Nat) : Nat := (jj_rfL a).getD k 0
end
section
/-! words of the tables that calls can hand on -/
def jj_wl : List Cond := lw_tbl.filter goodWord
theorem jj_m {i : Nat} {w : Cond} (h : lw_tbl[i]? = some w) (g : goodWord w = true) : w ∈ jj_wl := List.mem_filter.mpr ⟨List.mem_of_getElem? h, g⟩
theorem jj_wl_good : ∀ w ∈ jj_wl, goodWord w = true := fun w h => (List.mem_filter.mp h).2
def jj_T : Nat → u_T
  | 0 => TX0
  | 1 => TX1
  | 2 => TX2
  | 3 => TX3
  | 4 => TX4
  | 5 => TX5
  | _ => TX0
set_option maxRecDepth 20000 in
theorem jj_fl_ok_0 : ∀ e ∈ jj_fl 0, Cond.fieldLink (jj_R 0) e.1 (jj_T e.2.1 e.2.2).1 (jj_T e.2.1 e.2.2).2.1 (jj_T e.2.1 e.2.2).2.2.1 ∈ jj_wl := List.forall_mem_cons.mpr ⟨jj_m (i := 66) rfl rfl, List.forall_mem_cons.mpr ⟨jj_m (i := 70) rfl rfl, List.forall_mem_cons.mpr ⟨jj_m (i := 74) rfl rfl, List.forall_mem_cons.mpr ⟨jj_m (i := 77) rfl rfl, List.forall_mem_cons.mpr ⟨jj_m (i := 79) rfl rfl, List.forall_mem_cons.mpr ⟨jj_m (i := 81) rfl rfl, List.forall_mem_cons.mpr ⟨jj_m (i := 85) rfl rfl, List.forall_mem_cons.mpr ⟨jj_m (i := 88) rfl rfl, List.forall_mem_cons.mpr ⟨jj_m (i := 58) rfl rfl, List.forall_mem_cons.mpr ⟨jj_m (i := 64) rfl rfl, fun _ h => absurd h List.not_mem_nil⟩⟩⟩⟩⟩⟩⟩⟩⟩⟩
set_option maxRecDepth 20000 in
theorem jj_fl_ok_1 : ∀ e ∈ jj_fl 1, Cond.fieldLink (jj_R 1) e.1 (jj_T e.2.1 e.2.2).1 (jj_T e.2.1 e.2.2).2.1 (jj_T e.2.1 e.2.2).2.2.1 ∈ jj_wl := List.forall_mem_cons.mpr ⟨jj_m (i := 190) rfl rfl, List.forall_mem_cons.mpr ⟨jj_m (i := 192) rfl rfl, List.forall_mem_cons.mpr ⟨jj_m (i := 194) rfl rfl, List.forall_mem_cons.mpr ⟨jj_m (i := 195) rfl rfl, List.forall_mem_cons.mpr ⟨jj_m (i := 196) rfl rfl, List.forall_mem_cons.mpr ⟨jj_m (i := 189) rfl rfl, List.forall_mem_cons.mpr ⟨jj_m (i := 63) rfl rfl, List.forall_mem_cons.mpr ⟨jj_m (i := 60) rfl rfl, List.forall_mem_cons.mpr ⟨jj_m (i := 67) rfl rfl, List.forall_mem_cons.mpr ⟨jj_m (i := 90) rfl rfl, List.forall_mem_cons.mpr ⟨jj_m (i := 84) rfl rfl, List.forall_mem_cons.mpr ⟨jj_m (i := 73) rfl rfl, fun _ h => absurd h List.not_mem_nil⟩⟩⟩⟩⟩⟩⟩⟩⟩⟩⟩⟩
set_option maxRecDepth 20000 in
theorem jj_fl_ok_2 : ∀ e ∈ jj_fl 2, Cond.fieldLink (jj_R 2) e.1 (jj_T e.2.1 e.2.2).1 (jj_T e.2.1 e.2.2).2.1 (jj_T e.2.1 e.2.2).2.2.1 ∈ jj_wl := List.forall_mem_cons.mpr ⟨jj_m (i := 158) rfl rfl, List.forall_mem_cons.mpr ⟨jj_m (i := 160) rfl rfl, List.forall_mem_cons.mpr ⟨jj_m (i := 162) rfl rfl, List.forall_mem_cons.mpr ⟨jj_m (i := 163) rfl rfl, List.forall_mem_cons.mpr ⟨jj_m (i := 149) rfl rfl, List.forall_mem_cons.mpr ⟨jj_m (i := 152) rfl rfl, List.forall_mem_cons.mpr ⟨jj_m (i := 154) rfl rfl, List.forall_mem_cons.mpr ⟨jj_m (i := 156) rfl rfl, List.forall_mem_cons.mpr ⟨jj_m (i := 150) rfl rfl, List.forall_mem_cons.mpr ⟨jj_m (i := 126) rfl rfl, List.forall_mem_cons.mpr ⟨jj_m (i := 128) rfl rfl, fun _ h => absurd h List.not_mem_nil⟩⟩⟩⟩⟩⟩⟩⟩⟩⟩⟩
set_option maxRecDepth 20000 in
theorem jj_fl_ok_3 : ∀ e ∈ jj_fl 3, Cond.fieldLink (jj_R 3) e.1 (jj_T e.2.1 e.2.2).1 (jj_T e.2.1 e.2.2).2.1 (jj_T e.2.1 e.2.2).2.2.1 ∈ jj_wl := List.forall_mem_cons.mpr ⟨jj_m (i := 122) rfl rfl, List.forall_mem_cons.mpr ⟨jj_m (i := 123) rfl rfl, List.forall_mem_cons.mpr ⟨jj_m (i := 124) rfl rfl, List.forall_mem_cons.mpr ⟨jj_m (i := 125) rfl rfl, List.forall_mem_cons.mpr ⟨jj_m (i := 121) rfl rfl, List.forall_mem_cons.mpr ⟨jj_m (i := 62) rfl rfl, List.forall_mem_cons.mpr ⟨jj_m (i := 86) rfl rfl, List.forall_mem_cons.mpr ⟨jj_m (i := 82) rfl rfl, List.forall_mem_cons.mpr ⟨jj_m (i := 61) rfl rfl, List.forall_mem_cons.mpr ⟨jj_m (i := 71) rfl rfl, List.forall_mem_cons.mpr ⟨jj_m (i := 127) rfl rfl, List.forall_mem_cons.mpr ⟨jj_m (i := 69) rfl rfl, List.forall_mem_cons.mpr ⟨jj_m (i := 91) rfl rfl, List.forall_mem_cons.mpr ⟨jj_m (i := 76) rfl rfl, List.forall_mem_cons.mpr ⟨jj_m (i := 78) rfl rfl, List.forall_mem_cons.mpr ⟨jj_m (i := 80) rfl rfl, fun _ h => absurd h List.not_mem_nil⟩⟩⟩⟩⟩⟩⟩⟩⟩⟩⟩⟩⟩⟩⟩⟩
set_option maxRecDepth 20000 in
theorem jj_fl_ok_4 : ∀ e ∈ jj_fl 4, Cond.fieldLink (jj_R 4) e.1 (jj_T e.2.1 e.2.2).1 (jj_T e.2.1 e.2.2).2.1 (jj_T e.2.1 e.2.2).2.2.1 ∈ jj_wl := List.forall_mem_cons.mpr ⟨jj_m (i := 211) rfl rfl, List.forall_mem_cons.mpr ⟨jj_m (i := 212) rfl rfl, List.forall_mem_cons.mpr ⟨jj_m (i := 213) rfl rfl, List.forall_mem_cons.mpr ⟨jj_m (i := 214) rfl rfl, List.forall_mem_cons.mpr ⟨jj_m (i := 215) rfl rfl, List.forall_mem_cons.mpr ⟨jj_m (i := 59) rfl rfl, List.forall_mem_cons.mpr ⟨jj_m (i := 65) rfl rfl, List.forall_mem_cons.mpr ⟨jj_m (i := 75) rfl rfl, List.forall_mem_cons.mpr ⟨jj_m (i := 89) rfl rfl, List.forall_mem_cons.mpr ⟨jj_m (i := 87) rfl rfl, List.forall_mem_cons.mpr ⟨jj_m (i := 83) rfl rfl, List.forall_mem_cons.mpr ⟨jj_m (i := 68) rfl rfl, List.forall_mem_cons.mpr ⟨jj_m (i := 72) rfl rfl, List.forall_mem_cons.mpr ⟨jj_m (i := 157) rfl rfl, List.forall_mem_cons.mpr ⟨jj_m (i := 155) rfl rfl, List.forall_mem_cons.mpr ⟨jj_m (i := 153) rfl rfl, List.forall_mem_cons.mpr ⟨jj_m (i := 151) rfl rfl, List.forall_mem_cons.mpr ⟨jj_m (i := 159) rfl rfl, List.forall_mem_cons.mpr ⟨jj_m (i := 161) rfl rfl, List.forall_mem_cons.mpr ⟨jj_m (i := 129) rfl rfl, List.forall_mem_cons.mpr ⟨jj_m (i := 191) rfl rfl, List.forall_mem_cons.mpr ⟨jj_m (i := 193) rfl rfl, List.forall_mem_cons.mpr ⟨jj_m (i := 216) rfl rfl, List.forall_mem_cons.mpr ⟨jj_m (i := 217) rfl rfl, fun _ h => absurd h List.not_mem_nil⟩⟩⟩⟩⟩⟩⟩⟩⟩⟩⟩⟩⟩⟩⟩⟩⟩⟩⟩⟩⟩⟩⟩⟩
set_option maxRecDepth 20000 in
theorem jj_fl_ok_5 : ∀ e ∈ jj_fl 5, Cond.fieldLink (jj_R 5) e.1 (jj_T e.2.1 e.2.2).1 (jj_T e.2.1 e.2.2).2.1 (jj_T e.2.1 e.2.2).2.2.1 ∈ jj_wl := List.forall_mem_cons.mpr ⟨jj_m (i := 580) rfl rfl, List.forall_mem_cons.mpr ⟨jj_m (i := 581) rfl rfl, List.forall_mem_cons.mpr ⟨jj_m (i := 583) rfl rfl, List.forall_mem_cons.mpr ⟨jj_m (i := 584) rfl rfl, List.forall_mem_cons.mpr ⟨jj_m (i := 585) rfl rfl, List.forall_mem_cons.mpr ⟨jj_m (i := 586) rfl rfl, List.forall_mem_cons.mpr ⟨jj_m (i := 587) rfl rfl, List.forall_mem_cons.mpr ⟨jj_m (i := 588) rfl rfl, List.forall_mem_cons.mpr ⟨jj_m (i := 589) rfl rfl, List.forall_mem_cons.mpr ⟨jj_m (i := 590) rfl rfl, List.forall_mem_cons.mpr ⟨jj_m (i := 593) rfl rfl, List.forall_mem_cons.mpr ⟨jj_m (i := 594) rfl rfl, List.forall_mem_cons.mpr ⟨jj_m (i := 597) rfl rfl, List.forall_mem_cons.mpr ⟨jj_m (i := 599) rfl rfl, List.forall_mem_cons.mpr ⟨jj_m (i := 600) rfl rfl, List.forall_mem_cons.mpr ⟨jj_m (i := 601) rfl rfl, List.forall_mem_cons.mpr ⟨jj_m (i := 602) rfl rfl, List.forall_mem_cons.mpr ⟨jj_m (i := 603) rfl rfl, List.forall_mem_cons.mpr ⟨jj_m (i := 579) rfl rfl, List.forall_mem_cons.mpr ⟨jj_m (i := 582) rfl rfl, List.forall_mem_cons.mpr ⟨jj_m (i := 591) rfl rfl, List.forall_mem_cons.mpr ⟨jj_m (i := 592) rfl rfl, List.forall_mem_cons.mpr ⟨jj_m (i := 595) rfl rfl, List.forall_mem_cons.mpr ⟨jj_m (i := 596) rfl rfl, List.forall_mem_cons.mpr ⟨jj_m (i := 598) rfl rfl, List.forall_mem_cons.mpr ⟨jj_m (i := 606) rfl rfl, List.forall_mem_cons.mpr ⟨jj_m (i := 604) rfl rfl, List.forall_mem_cons.mpr ⟨jj_m (i := 605) rfl rfl, List.forall_mem_cons.mpr ⟨jj_m (i := 609) rfl rfl, List.forall_mem_cons.mpr ⟨jj_m (i := 607) rfl rfl, List.forall_mem_cons.mpr ⟨jj_m (i := 608) rfl rfl, fun _ h => absurd h List.not_mem_nil⟩⟩⟩⟩⟩⟩⟩⟩⟩⟩⟩⟩⟩⟩⟩⟩⟩⟩⟩⟩⟩⟩⟩⟩⟩⟩⟩⟩⟩⟩⟩
theorem jj_fl_ok : ∀ c : Nat, ∀ e ∈ jj_fl c, Cond.fieldLink (jj_R c) e.1 (jj_T e.2.1 e.2.2).1 (jj_T e.2.1 e.2.2).2.1 (jj_T e.2.1 e.2.2).2.2.1 ∈ jj_wl := fun c => match c with
  | 0 => jj_fl_ok_0
  | 1 => jj_fl_ok_1
  | 2 => jj_fl_ok_2
  | 3 => jj_fl_ok_3
  | 4 => jj_fl_ok_4
  | 5 => jj_fl_ok_5
  | 6 => fun _ h => absurd h List.not_mem_nil
  | 7 => fun _ h => absurd h List.not_mem_nil
  | 8 => fun _ h => absurd h List.not_mem_nil
  | 9 => fun _ h => absurd h List.not_mem_nil
  | _ + 10 => fun _ h => absurd h List.not_mem_nil
set_option maxRecDepth 20000 in
theorem jj_ld_ok_2 : ∀ e ∈ jj_ldL 2, Cond.constant (jj_R 2) e.1 e.2 ∈ jj_wl := List.forall_mem_cons.mpr ⟨jj_m (i := 304) rfl rfl, fun _ h => absurd h List.not_mem_nil⟩
set_option maxRecDepth 20000 in
theorem jj_ld_ok_3 : ∀ e ∈ jj_ldL 3, Cond.constant (jj_R 3) e.1 e.2 ∈ jj_wl := List.forall_mem_cons.mpr ⟨jj_m (i := 312) rfl rfl, List.forall_mem_cons.mpr ⟨jj_m (i := 332) rfl rfl, fun _ h => absurd h List.not_mem_nil⟩⟩
set_option maxRecDepth 20000 in
theorem jj_ld_ok_4 : ∀ e ∈ jj_ldL 4, Cond.constant (jj_R 4) e.1 e.2 ∈ jj_wl := List.forall_mem_cons.mpr ⟨jj_m (i := 243) rfl rfl, List.forall_mem_cons.mpr ⟨jj_m (i := 244) rfl rfl, fun _ h => absurd h List.not_mem_nil⟩⟩
set_option maxRecDepth 20000 in
theorem jj_ld_ok_5 : ∀ e ∈ jj_ldL 5, Cond.constant (jj_R 5) e.1 e.2 ∈ jj_wl := List.forall_mem_cons.mpr ⟨jj_m (i := 683) rfl rfl, List.forall_mem_cons.mpr ⟨jj_m (i := 684) rfl rfl, List.forall_mem_cons.mpr ⟨jj_m (i := 719) rfl rfl, fun _ h => absurd h List.not_mem_nil⟩⟩⟩
set_option maxRecDepth 20000 in
theorem jj_ld_ok_6 : ∀ e ∈ jj_ldL 6, Cond.constant (jj_R 6) e.1 e.2 ∈ jj_wl := List.forall_mem_cons.mpr ⟨jj_m (i := 484) rfl rfl, List.forall_mem_cons.mpr ⟨jj_m (i := 485) rfl rfl, List.forall_mem_cons.mpr ⟨jj_m (i := 486) rfl rfl, fun _ h => absurd h List.not_mem_nil⟩⟩⟩
theorem jj_ld_ok : ∀ c : Nat, ∀ e ∈ jj_ldL c, Cond.constant (jj_R c) e.1 e.2 ∈ jj_wl := fun c => match c with
  | 0 => fun _ h => absurd h List.not_mem_nil
  | 1 => fun _ h => absurd h List.not_mem_nil
  | 2 => jj_ld_ok_2
  | 3 => jj_ld_ok_3
  | 4 => jj_ld_ok_4
  | 5 => jj_ld_ok_5
  | 6 => jj_ld_ok_6
  | 7 => fun _ h => absurd h List.not_mem_nil
  | 8 => fun _ h => absurd h List.not_mem_nil
  | 9 => fun _ h => absurd h List.not_mem_nil
  | _ + 10 => fun _ h => absurd h List.not_mem_nil
set_option maxRecDepth 20000 in
theorem jj_ll_ok_1 : ∀ e ∈ jj_llL 1, Cond.constantLong (jj_R 1) e.1 e.2 ∈ jj_wl := List.forall_mem_cons.mpr ⟨jj_m (i := 553) rfl rfl, fun _ h => absurd h List.not_mem_nil⟩
set_option maxRecDepth 20000 in
theorem jj_ll_ok_4 : ∀ e ∈ jj_llL 4, Cond.constantLong (jj_R 4) e.1 e.2 ∈ jj_wl := List.forall_mem_cons.mpr ⟨jj_m (i := 535) rfl rfl, fun _ h => absurd h List.not_mem_nil⟩
set_option maxRecDepth 20000 in
theorem jj_ll_ok_5 : ∀ e ∈ jj_llL 5, Cond.constantLong (jj_R 5) e.1 e.2 ∈ jj_wl := List.forall_mem_cons.mpr ⟨jj_m (i := 693) rfl rfl, List.forall_mem_cons.mpr ⟨jj_m (i := 682) rfl rfl, List.forall_mem_cons.mpr ⟨jj_m (i := 677) rfl rfl, List.forall_mem_cons.mpr ⟨jj_m (i := 678) rfl rfl, List.forall_mem_cons.mpr ⟨jj_m (i := 689) rfl rfl, List.forall_mem_cons.mpr ⟨jj_m (i := 706) rfl rfl, List.forall_mem_cons.mpr ⟨jj_m (i := 828) rfl rfl, List.forall_mem_cons.mpr ⟨jj_m (i := 833) rfl rfl, List.forall_mem_cons.mpr ⟨jj_m (i := 842) rfl rfl, List.forall_mem_cons.mpr ⟨jj_m (i := 843) rfl rfl, List.forall_mem_cons.mpr ⟨jj_m (i := 844) rfl rfl, List.forall_mem_cons.mpr ⟨jj_m (i := 845) rfl rfl, fun _ h => absurd h List.not_mem_nil⟩⟩⟩⟩⟩⟩⟩⟩⟩⟩⟩⟩
theorem jj_ll_ok : ∀ c : Nat, ∀ e ∈ jj_llL c, Cond.constantLong (jj_R c) e.1 e.2 ∈ jj_wl := fun c => match c with
  | 0 => fun _ h => absurd h List.not_mem_nil
  | 1 => jj_ll_ok_1
  | 2 => fun _ h => absurd h List.not_mem_nil
  | 3 => fun _ h => absurd h List.not_mem_nil
  | 4 => jj_ll_ok_4
  | 5 => jj_ll_ok_5
  | 6 => fun _ h => absurd h List.not_mem_nil
  | 7 => fun _ h => absurd h List.not_mem_nil
  | 8 => fun _ h => absurd h List.not_mem_nil
  | 9 => fun _ h => absurd h List.not_mem_nil
  | _ + 10 => fun _ h => absurd h List.not_mem_nil
def jj_okM (M : jj_M) : Prop := plainFor M.1.1 = true ∧ Cond.code M.1.1 M.1.2 M.2.1 M.2.2.1 ∈ jj_wl ∧ jj_R M.2.2.2.1 = M.1.1.cls ∧ Cond.initialized M.1.1.cls ∈ jj_wl ∧ M.1.1.cls ≠ "java/lang/invoke/MethodHandle" ∧ M.1.1.cls ≠ "java/lang/invoke/VarHandle" ∧ (parseMethodDescriptor M.1.1.desc).map (fun d => d.parameters.length) = some M.2.2.2.2 ∧ M.2.1 < 30
set_option maxRecDepth 20000 in
theorem okX0_addThing : jj_okM mX0_addThing := ⟨by decide +kernel, jj_m (i := 252) rfl rfl, rfl, jj_m (i := 36) rfl rfl, by decide +kernel, by decide +kernel, by decide +kernel, by decide⟩
set_option maxRecDepth 20000 in
theorem okX0_addRule : jj_okM mX0_addRule := ⟨by decide +kernel, jj_m (i := 267) rfl rfl, rfl, jj_m (i := 36) rfl rfl, by decide +kernel, by decide +kernel, by decide +kernel, by decide⟩
set_option maxRecDepth 20000 in
theorem okX0_pair : jj_okM mX0_pair := ⟨by decide +kernel, jj_m (i := 271) rfl rfl, rfl, jj_m (i := 36) rfl rfl, by decide +kernel, by decide +kernel, by decide +kernel, by decide⟩
set_option maxRecDepth 20000 in
theorem okX0_rulesOn : jj_okM mX0_rulesOn := ⟨by decide +kernel, jj_m (i := 572) rfl rfl, rfl, jj_m (i := 36) rfl rfl, by decide +kernel, by decide +kernel, by decide +kernel, by decide⟩
set_option maxRecDepth 20000 in
theorem okX0_countsForShares : jj_okM mX0_countsForShares := ⟨by decide +kernel, jj_m (i := 476) rfl rfl, rfl, jj_m (i := 36) rfl rfl, by decide +kernel, by decide +kernel, by decide +kernel, by decide⟩
set_option maxRecDepth 20000 in
theorem okX1_find : jj_okM mX1_find := ⟨by decide +kernel, jj_m (i := 466) rfl rfl, rfl, jj_m (i := 39) rfl rfl, by decide +kernel, by decide +kernel, by decide +kernel, by decide⟩
set_option maxRecDepth 20000 in
theorem okX1_allCount : jj_okM mX1_allCount := ⟨by decide +kernel, jj_m (i := 469) rfl rfl, rfl, jj_m (i := 39) rfl rfl, by decide +kernel, by decide +kernel, by decide +kernel, by decide⟩
set_option maxRecDepth 20000 in
theorem okX1_has : jj_okM mX1_has := ⟨by decide +kernel, jj_m (i := 472) rfl rfl, rfl, jj_m (i := 39) rfl rfl, by decide +kernel, by decide +kernel, by decide +kernel, by decide⟩
set_option maxRecDepth 20000 in
theorem okX1_writeEquations : jj_okM mX1_writeEquations := ⟨by decide +kernel, jj_m (i := 490) rfl rfl, rfl, jj_m (i := 39) rfl rfl, by decide +kernel, by decide +kernel, by decide +kernel, by decide⟩
set_option maxRecDepth 20000 in
theorem okX1_tryCorner : jj_okM mX1_tryCorner := ⟨by decide +kernel, jj_m (i := 480) rfl rfl, rfl, jj_m (i := 39) rfl rfl, by decide +kernel, by decide +kernel, by decide +kernel, by decide⟩
set_option maxRecDepth 20000 in
theorem okX1_writePrices : jj_okM mX1_writePrices := ⟨by decide +kernel, jj_m (i := 497) rfl rfl, rfl, jj_m (i := 39) rfl rfl, by decide +kernel, by decide +kernel, by decide +kernel, by decide⟩
set_option maxRecDepth 20000 in
theorem okX1_swapDues : jj_okM mX1_swapDues := ⟨by decide +kernel, jj_m (i := 501) rfl rfl, rfl, jj_m (i := 39) rfl rfl, by decide +kernel, by decide +kernel, by decide +kernel, by decide⟩
set_option maxRecDepth 20000 in
theorem okX1_determinant : jj_okM mX1_determinant := ⟨by decide +kernel, jj_m (i := 493) rfl rfl, rfl, jj_m (i := 39) rfl rfl, by decide +kernel, by decide +kernel, by decide +kernel, by decide⟩
set_option maxRecDepth 20000 in
theorem okX1_boundAt : jj_okM mX1_boundAt := ⟨by decide +kernel, jj_m (i := 508) rfl rfl, rfl, jj_m (i := 39) rfl rfl, by decide +kernel, by decide +kernel, by decide +kernel, by decide⟩
set_option maxRecDepth 20000 in
theorem okX1_slope : jj_okM mX1_slope := ⟨by decide +kernel, jj_m (i := 512) rfl rfl, rfl, jj_m (i := 39) rfl rfl, by decide +kernel, by decide +kernel, by decide +kernel, by decide⟩
set_option maxRecDepth 20000 in
theorem okX1_leastBound : jj_okM mX1_leastBound := ⟨by decide +kernel, jj_m (i := 519) rfl rfl, rfl, jj_m (i := 39) rfl rfl, by decide +kernel, by decide +kernel, by decide +kernel, by decide⟩
set_option maxRecDepth 20000 in
theorem okX1_leastBoundFlattest : jj_okM mX1_leastBoundFlattest := ⟨by decide +kernel, jj_m (i := 539) rfl rfl, rfl, jj_m (i := 39) rfl rfl, by decide +kernel, by decide +kernel, by decide +kernel, by decide⟩
set_option maxRecDepth 20000 in
theorem okX1_reach : jj_okM mX1_reach := ⟨by decide +kernel, jj_m (i := 552) rfl rfl, rfl, jj_m (i := 39) rfl rfl, by decide +kernel, by decide +kernel, by decide +kernel, by decide⟩
set_option maxRecDepth 20000 in
theorem okX1_boundAbove : jj_okM mX1_boundAbove := ⟨by decide +kernel, jj_m (i := 523) rfl rfl, rfl, jj_m (i := 39) rfl rfl, by decide +kernel, by decide +kernel, by decide +kernel, by decide⟩
set_option maxRecDepth 20000 in
theorem okX1_slopeBelow : jj_okM mX1_slopeBelow := ⟨by decide +kernel, jj_m (i := 543) rfl rfl, rfl, jj_m (i := 39) rfl rfl, by decide +kernel, by decide +kernel, by decide +kernel, by decide⟩
set_option maxRecDepth 20000 in
theorem okX2_lookAtAll : jj_okM mX2_lookAtAll := ⟨by decide +kernel, jj_m (i := 303) rfl rfl, rfl, jj_m (i := 38) rfl rfl, by decide +kernel, by decide +kernel, by decide +kernel, by decide⟩
set_option maxRecDepth 20000 in
theorem okX2_lookAt : jj_okM mX2_lookAt := ⟨by decide +kernel, jj_m (i := 320) rfl rfl, rfl, jj_m (i := 38) rfl rfl, by decide +kernel, by decide +kernel, by decide +kernel, by decide⟩
set_option maxRecDepth 20000 in
theorem okX2_noteFitting : jj_okM mX2_noteFitting := ⟨by decide +kernel, jj_m (i := 336) rfl rfl, rfl, jj_m (i := 38) rfl rfl, by decide +kernel, by decide +kernel, by decide +kernel, by decide⟩
set_option maxRecDepth 20000 in
theorem okX2_noteBetter : jj_okM mX2_noteBetter := ⟨by decide +kernel, jj_m (i := 343) rfl rfl, rfl, jj_m (i := 38) rfl rfl, by decide +kernel, by decide +kernel, by decide +kernel, by decide⟩
set_option maxRecDepth 20000 in
theorem okX2_noteEqual : jj_okM mX2_noteEqual := ⟨by decide +kernel, jj_m (i := 347) rfl rfl, rfl, jj_m (i := 38) rfl rfl, by decide +kernel, by decide +kernel, by decide +kernel, by decide⟩
set_option maxRecDepth 20000 in
theorem okX2_greatestWith : jj_okM mX2_greatestWith := ⟨by decide +kernel, jj_m (i := 416) rfl rfl, rfl, jj_m (i := 38) rfl rfl, by decide +kernel, by decide +kernel, by decide +kernel, by decide⟩
set_option maxRecDepth 20000 in
theorem okX2_gainWithout : jj_okM mX2_gainWithout := ⟨by decide +kernel, jj_m (i := 391) rfl rfl, rfl, jj_m (i := 38) rfl rfl, by decide +kernel, by decide +kernel, by decide +kernel, by decide⟩
set_option maxRecDepth 20000 in
theorem okX2_rulesAhead : jj_okM mX2_rulesAhead := ⟨by decide +kernel, jj_m (i := 399) rfl rfl, rfl, jj_m (i := 38) rfl rfl, by decide +kernel, by decide +kernel, by decide +kernel, by decide⟩
set_option maxRecDepth 20000 in
theorem okX2_spanBottom : jj_okM mX2_spanBottom := ⟨by decide +kernel, jj_m (i := 437) rfl rfl, rfl, jj_m (i := 38) rfl rfl, by decide +kernel, by decide +kernel, by decide +kernel, by decide⟩
set_option maxRecDepth 20000 in
theorem okX2_spanTop : jj_okM mX2_spanTop := ⟨by decide +kernel, jj_m (i := 424) rfl rfl, rfl, jj_m (i := 38) rfl rfl, by decide +kernel, by decide +kernel, by decide +kernel, by decide⟩
set_option maxRecDepth 20000 in
theorem okX2_restWith : jj_okM mX2_restWith := ⟨by decide +kernel, jj_m (i := 429) rfl rfl, rfl, jj_m (i := 38) rfl rfl, by decide +kernel, by decide +kernel, by decide +kernel, by decide⟩
set_option maxRecDepth 20000 in
theorem okX3_begin : jj_okM mX3_begin := ⟨by decide +kernel, jj_m (i := 311) rfl rfl, rfl, jj_m (i := 37) rfl rfl, by decide +kernel, by decide +kernel, by decide +kernel, by decide⟩
set_option maxRecDepth 20000 in
theorem okX3_loosen : jj_okM mX3_loosen := ⟨by decide +kernel, jj_m (i := 376) rfl rfl, rfl, jj_m (i := 37) rfl rfl, by decide +kernel, by decide +kernel, by decide +kernel, by decide⟩
set_option maxRecDepth 20000 in
theorem okX3_allowOneMore : jj_okM mX3_allowOneMore := ⟨by decide +kernel, jj_m (i := 408) rfl rfl, rfl, jj_m (i := 37) rfl rfl, by decide +kernel, by decide +kernel, by decide +kernel, by decide⟩
set_option maxRecDepth 20000 in
theorem okX3_goTo : jj_okM mX3_goTo := ⟨by decide +kernel, jj_m (i := 449) rfl rfl, rfl, jj_m (i := 37) rfl rfl, by decide +kernel, by decide +kernel, by decide +kernel, by decide⟩
set_option maxRecDepth 20000 in
theorem okX3_plans : jj_okM mX3_plans := ⟨by decide +kernel, jj_m (i := 316) rfl rfl, rfl, jj_m (i := 37) rfl rfl, by decide +kernel, by decide +kernel, by decide +kernel, by decide⟩
set_option maxRecDepth 20000 in
theorem okX3_step : jj_okM mX3_step := ⟨by decide +kernel, jj_m (i := 351) rfl rfl, rfl, jj_m (i := 37) rfl rfl, by decide +kernel, by decide +kernel, by decide +kernel, by decide⟩
set_option maxRecDepth 20000 in
theorem okX3_shift : jj_okM mX3_shift := ⟨by decide +kernel, jj_m (i := 355) rfl rfl, rfl, jj_m (i := 37) rfl rfl, by decide +kernel, by decide +kernel, by decide +kernel, by decide⟩
set_option maxRecDepth 20000 in
theorem okX3_firstOver : jj_okM mX3_firstOver := ⟨by decide +kernel, jj_m (i := 324) rfl rfl, rfl, jj_m (i := 37) rfl rfl, by decide +kernel, by decide +kernel, by decide +kernel, by decide⟩
set_option maxRecDepth 20000 in
theorem okX3_load : jj_okM mX3_load := ⟨by decide +kernel, jj_m (i := 328) rfl rfl, rfl, jj_m (i := 37) rfl rfl, by decide +kernel, by decide +kernel, by decide +kernel, by decide⟩
set_option maxRecDepth 20000 in
theorem okX3_greatestFitting : jj_okM mX3_greatestFitting := ⟨by decide +kernel, jj_m (i := 380) rfl rfl, rfl, jj_m (i := 37) rfl rfl, by decide +kernel, by decide +kernel, by decide +kernel, by decide⟩
set_option maxRecDepth 20000 in
theorem okX4_thing : jj_okM mX4_thing := ⟨by decide +kernel, jj_m (i := 236) rfl rfl, rfl, jj_m (i := 35) rfl rfl, by decide +kernel, by decide +kernel, by decide +kernel, by decide⟩
set_option maxRecDepth 20000 in
theorem okX4_rule : jj_okM mX4_rule := ⟨by decide +kernel, jj_m (i := 256) rfl rfl, rfl, jj_m (i := 35) rfl rfl, by decide +kernel, by decide +kernel, by decide +kernel, by decide⟩
set_option maxRecDepth 20000 in
theorem okX4_amount : jj_okM mX4_amount := ⟨by decide +kernel, jj_m (i := 275) rfl rfl, rfl, jj_m (i := 35) rfl rfl, by decide +kernel, by decide +kernel, by decide +kernel, by decide⟩
set_option maxRecDepth 20000 in
theorem okX4_on : jj_okM mX4_on := ⟨by decide +kernel, jj_m (i := 287) rfl rfl, rfl, jj_m (i := 35) rfl rfl, by decide +kernel, by decide +kernel, by decide +kernel, by decide⟩
set_option maxRecDepth 20000 in
theorem okX4_set : jj_okM mX4_set := ⟨by decide +kernel, jj_m (i := 291) rfl rfl, rfl, jj_m (i := 35) rfl rfl, by decide +kernel, by decide +kernel, by decide +kernel, by decide⟩
set_option maxRecDepth 20000 in
theorem okX4_value : jj_okM mX4_value := ⟨by decide +kernel, jj_m (i := 295) rfl rfl, rfl, jj_m (i := 35) rfl rfl, by decide +kernel, by decide +kernel, by decide +kernel, by decide⟩
set_option maxRecDepth 20000 in
theorem okX4_counted : jj_okM mX4_counted := ⟨by decide +kernel, jj_m (i := 359) rfl rfl, rfl, jj_m (i := 35) rfl rfl, by decide +kernel, by decide +kernel, by decide +kernel, by decide⟩
set_option maxRecDepth 20000 in
theorem okX4_first : jj_okM mX4_first := ⟨by decide +kernel, jj_m (i := 363) rfl rfl, rfl, jj_m (i := 35) rfl rfl, by decide +kernel, by decide +kernel, by decide +kernel, by decide⟩
set_option maxRecDepth 20000 in
theorem okX4_fast : jj_okM mX4_fast := ⟨by decide +kernel, jj_m (i := 367) rfl rfl, rfl, jj_m (i := 35) rfl rfl, by decide +kernel, by decide +kernel, by decide +kernel, by decide⟩
set_option maxRecDepth 20000 in
theorem okX4_price : jj_okM mX4_price := ⟨by decide +kernel, jj_m (i := 371) rfl rfl, rfl, jj_m (i := 35) rfl rfl, by decide +kernel, by decide +kernel, by decide +kernel, by decide⟩
set_option maxRecDepth 20000 in
theorem okX4_weight : jj_okM mX4_weight := ⟨by decide +kernel, jj_m (i := 387) rfl rfl, rfl, jj_m (i := 35) rfl rfl, by decide +kernel, by decide +kernel, by decide +kernel, by decide⟩
set_option maxRecDepth 20000 in
theorem okX4_rank : jj_okM mX4_rank := ⟨by decide +kernel, jj_m (i := 395) rfl rfl, rfl, jj_m (i := 35) rfl rfl, by decide +kernel, by decide +kernel, by decide +kernel, by decide⟩
set_option maxRecDepth 20000 in
theorem okX4_more : jj_okM mX4_more := ⟨by decide +kernel, jj_m (i := 404) rfl rfl, rfl, jj_m (i := 35) rfl rfl, by decide +kernel, by decide +kernel, by decide +kernel, by decide⟩
set_option maxRecDepth 20000 in
theorem okX4_must : jj_okM mX4_must := ⟨by decide +kernel, jj_m (i := 412) rfl rfl, rfl, jj_m (i := 35) rfl rfl, by decide +kernel, by decide +kernel, by decide +kernel, by decide⟩
set_option maxRecDepth 20000 in
theorem okX4_span : jj_okM mX4_span := ⟨by decide +kernel, jj_m (i := 420) rfl rfl, rfl, jj_m (i := 35) rfl rfl, by decide +kernel, by decide +kernel, by decide +kernel, by decide⟩
set_option maxRecDepth 20000 in
theorem okX4_put : jj_okM mX4_put := ⟨by decide +kernel, jj_m (i := 441) rfl rfl, rfl, jj_m (i := 35) rfl rfl, by decide +kernel, by decide +kernel, by decide +kernel, by decide⟩
set_option maxRecDepth 20000 in
theorem okX4_worth : jj_okM mX4_worth := ⟨by decide +kernel, jj_m (i := 445) rfl rfl, rfl, jj_m (i := 35) rfl rfl, by decide +kernel, by decide +kernel, by decide +kernel, by decide⟩
set_option maxRecDepth 20000 in
theorem okX4_broken : jj_okM mX4_broken := ⟨by decide +kernel, jj_m (i := 453) rfl rfl, rfl, jj_m (i := 35) rfl rfl, by decide +kernel, by decide +kernel, by decide +kernel, by decide⟩
set_option maxRecDepth 20000 in
theorem okX4_share : jj_okM mX4_share := ⟨by decide +kernel, jj_m (i := 458) rfl rfl, rfl, jj_m (i := 35) rfl rfl, by decide +kernel, by decide +kernel, by decide +kernel, by decide⟩
set_option maxRecDepth 20000 in
theorem okX4_sharePrice : jj_okM mX4_sharePrice := ⟨by decide +kernel, jj_m (i := 534) rfl rfl, rfl, jj_m (i := 35) rfl rfl, by decide +kernel, by decide +kernel, by decide +kernel, by decide⟩
set_option maxRecDepth 20000 in
theorem okX4_holds : jj_okM mX4_holds := ⟨by decide +kernel, jj_m (i := 548) rfl rfl, rfl, jj_m (i := 35) rfl rfl, by decide +kernel, by decide +kernel, by decide +kernel, by decide⟩
set_option maxRecDepth 20000 in
theorem okX4_gap : jj_okM mX4_gap := ⟨by decide +kernel, jj_m (i := 560) rfl rfl, rfl, jj_m (i := 35) rfl rfl, by decide +kernel, by decide +kernel, by decide +kernel, by decide⟩
set_option maxRecDepth 20000 in
theorem okX4_told : jj_okM mX4_told := ⟨by decide +kernel, jj_m (i := 564) rfl rfl, rfl, jj_m (i := 35) rfl rfl, by decide +kernel, by decide +kernel, by decide +kernel, by decide⟩
set_option maxRecDepth 20000 in
theorem okX4_toldCount : jj_okM mX4_toldCount := ⟨by decide +kernel, jj_m (i := 568) rfl rfl, rfl, jj_m (i := 35) rfl rfl, by decide +kernel, by decide +kernel, by decide +kernel, by decide⟩
set_option maxRecDepth 20000 in
theorem okX4_isThing : jj_okM mX4_isThing := ⟨by decide +kernel, jj_m (i := 263) rfl rfl, rfl, jj_m (i := 35) rfl rfl, by decide +kernel, by decide +kernel, by decide +kernel, by decide⟩
set_option maxRecDepth 20000 in
theorem okX4_isRule : jj_okM mX4_isRule := ⟨by decide +kernel, jj_m (i := 279) rfl rfl, rfl, jj_m (i := 35) rfl rfl, by decide +kernel, by decide +kernel, by decide +kernel, by decide⟩
set_option maxRecDepth 20000 in
theorem okX4_isWorth : jj_okM mX4_isWorth := ⟨by decide +kernel, jj_m (i := 239) rfl rfl, rfl, jj_m (i := 35) rfl rfl, by decide +kernel, by decide +kernel, by decide +kernel, by decide⟩
set_option maxRecDepth 20000 in
theorem okX4_isCount : jj_okM mX4_isCount := ⟨by decide +kernel, jj_m (i := 242) rfl rfl, rfl, jj_m (i := 35) rfl rfl, by decide +kernel, by decide +kernel, by decide +kernel, by decide⟩
set_option maxRecDepth 20000 in
theorem okX4_isLimit : jj_okM mX4_isLimit := ⟨by decide +kernel, jj_m (i := 259) rfl rfl, rfl, jj_m (i := 35) rfl rfl, by decide +kernel, by decide +kernel, by decide +kernel, by decide⟩
set_option maxRecDepth 20000 in
theorem okX4_replace : jj_okM mX4_replace := ⟨by decide +kernel, jj_m (i := 283) rfl rfl, rfl, jj_m (i := 35) rfl rfl, by decide +kernel, by decide +kernel, by decide +kernel, by decide⟩
set_option maxRecDepth 20000 in
theorem okX4_markChanged : jj_okM mX4_markChanged := ⟨by decide +kernel, jj_m (i := 248) rfl rfl, rfl, jj_m (i := 35) rfl rfl, by decide +kernel, by decide +kernel, by decide +kernel, by decide⟩
set_option maxRecDepth 20000 in
theorem okX4_freshSurvey : jj_okM mX4_freshSurvey := ⟨by decide +kernel, jj_m (i := 299) rfl rfl, rfl, jj_m (i := 35) rfl rfl, by decide +kernel, by decide +kernel, by decide +kernel, by decide⟩
set_option maxRecDepth 20000 in
theorem okX4_freshCorners : jj_okM mX4_freshCorners := ⟨by decide +kernel, jj_m (i := 462) rfl rfl, rfl, jj_m (i := 35) rfl rfl, by decide +kernel, by decide +kernel, by decide +kernel, by decide⟩
set_option maxRecDepth 20000 in
theorem okX4_inLowestTerms : jj_okM mX4_inLowestTerms := ⟨by decide +kernel, jj_m (i := 526) rfl rfl, rfl, jj_m (i := 35) rfl rfl, by decide +kernel, by decide +kernel, by decide +kernel, by decide⟩
set_option maxRecDepth 20000 in
theorem okX4_commonDivisor : jj_okM mX4_commonDivisor := ⟨by decide +kernel, jj_m (i := 530) rfl rfl, rfl, jj_m (i := 35) rfl rfl, by decide +kernel, by decide +kernel, by decide +kernel, by decide⟩
set_option maxRecDepth 20000 in
theorem okX5_in : jj_okM mX5_in := ⟨by decide +kernel, jj_m (i := 681) rfl rfl, rfl, jj_m (i := 40) rfl rfl, by decide +kernel, by decide +kernel, by decide +kernel, by decide⟩
set_option maxRecDepth 20000 in
theorem okX5_isThing : jj_okM mX5_isThing := ⟨by decide +kernel, jj_m (i := 697) rfl rfl, rfl, jj_m (i := 40) rfl rfl, by decide +kernel, by decide +kernel, by decide +kernel, by decide⟩
set_option maxRecDepth 20000 in
theorem okX5_isRule : jj_okM mX5_isRule := ⟨by decide +kernel, jj_m (i := 705) rfl rfl, rfl, jj_m (i := 40) rfl rfl, by decide +kernel, by decide +kernel, by decide +kernel, by decide⟩
set_option maxRecDepth 20000 in
theorem okX5_isLimit : jj_okM mX5_isLimit := ⟨by decide +kernel, jj_m (i := 692) rfl rfl, rfl, jj_m (i := 40) rfl rfl, by decide +kernel, by decide +kernel, by decide +kernel, by decide⟩
set_option maxRecDepth 20000 in
theorem okX5_thing : jj_okM mX5_thing := ⟨by decide +kernel, jj_m (i := 676) rfl rfl, rfl, jj_m (i := 40) rfl rfl, by decide +kernel, by decide +kernel, by decide +kernel, by decide⟩
set_option maxRecDepth 20000 in
theorem okX5_rule : jj_okM mX5_rule := ⟨by decide +kernel, jj_m (i := 688) rfl rfl, rfl, jj_m (i := 40) rfl rfl, by decide +kernel, by decide +kernel, by decide +kernel, by decide⟩
set_option maxRecDepth 20000 in
theorem okX5_amount : jj_okM mX5_amount := ⟨by decide +kernel, jj_m (i := 701) rfl rfl, rfl, jj_m (i := 40) rfl rfl, by decide +kernel, by decide +kernel, by decide +kernel, by decide⟩
set_option maxRecDepth 20000 in
theorem okX5_on : jj_okM mX5_on := ⟨by decide +kernel, jj_m (i := 710) rfl rfl, rfl, jj_m (i := 40) rfl rfl, by decide +kernel, by decide +kernel, by decide +kernel, by decide⟩
set_option maxRecDepth 20000 in
theorem okX5_set : jj_okM mX5_set := ⟨by decide +kernel, jj_m (i := 714) rfl rfl, rfl, jj_m (i := 40) rfl rfl, by decide +kernel, by decide +kernel, by decide +kernel, by decide⟩
set_option maxRecDepth 20000 in
theorem okX5_isAs : jj_okM mX5_isAs := ⟨by decide +kernel, jj_m (i := 731) rfl rfl, rfl, jj_m (i := 40) rfl rfl, by decide +kernel, by decide +kernel, by decide +kernel, by decide⟩
set_option maxRecDepth 20000 in
theorem okX5_fits : jj_okM mX5_fits := ⟨by decide +kernel, jj_m (i := 727) rfl rfl, rfl, jj_m (i := 40) rfl rfl, by decide +kernel, by decide +kernel, by decide +kernel, by decide⟩
set_option maxRecDepth 20000 in
theorem okX5_valueOf : jj_okM mX5_valueOf := ⟨by decide +kernel, jj_m (i := 739) rfl rfl, rfl, jj_m (i := 40) rfl rfl, by decide +kernel, by decide +kernel, by decide +kernel, by decide⟩
set_option maxRecDepth 20000 in
theorem okX5_look : jj_okM mX5_look := ⟨by decide +kernel, jj_m (i := 723) rfl rfl, rfl, jj_m (i := 40) rfl rfl, by decide +kernel, by decide +kernel, by decide +kernel, by decide⟩
set_option maxRecDepth 20000 in
theorem okX5_take : jj_okM mX5_take := ⟨by decide +kernel, jj_m (i := 735) rfl rfl, rfl, jj_m (i := 40) rfl rfl, by decide +kernel, by decide +kernel, by decide +kernel, by decide⟩
set_option maxRecDepth 20000 in
theorem okX5_value : jj_okM mX5_value := ⟨by decide +kernel, jj_m (i := 718) rfl rfl, rfl, jj_m (i := 40) rfl rfl, by decide +kernel, by decide +kernel, by decide +kernel, by decide⟩
set_option maxRecDepth 20000 in
theorem okX5_counted : jj_okM mX5_counted := ⟨by decide +kernel, jj_m (i := 743) rfl rfl, rfl, jj_m (i := 40) rfl rfl, by decide +kernel, by decide +kernel, by decide +kernel, by decide⟩
set_option maxRecDepth 20000 in
theorem okX5_first : jj_okM mX5_first := ⟨by decide +kernel, jj_m (i := 747) rfl rfl, rfl, jj_m (i := 40) rfl rfl, by decide +kernel, by decide +kernel, by decide +kernel, by decide⟩
set_option maxRecDepth 20000 in
theorem okX5_fast : jj_okM mX5_fast := ⟨by decide +kernel, jj_m (i := 751) rfl rfl, rfl, jj_m (i := 40) rfl rfl, by decide +kernel, by decide +kernel, by decide +kernel, by decide⟩
set_option maxRecDepth 20000 in
theorem okX5_price : jj_okM mX5_price := ⟨by decide +kernel, jj_m (i := 755) rfl rfl, rfl, jj_m (i := 40) rfl rfl, by decide +kernel, by decide +kernel, by decide +kernel, by decide⟩
set_option maxRecDepth 20000 in
theorem okX5_weight : jj_okM mX5_weight := ⟨by decide +kernel, jj_m (i := 760) rfl rfl, rfl, jj_m (i := 40) rfl rfl, by decide +kernel, by decide +kernel, by decide +kernel, by decide⟩
set_option maxRecDepth 20000 in
theorem okX5_rank : jj_okM mX5_rank := ⟨by decide +kernel, jj_m (i := 764) rfl rfl, rfl, jj_m (i := 40) rfl rfl, by decide +kernel, by decide +kernel, by decide +kernel, by decide⟩
set_option maxRecDepth 20000 in
theorem okX5_more : jj_okM mX5_more := ⟨by decide +kernel, jj_m (i := 769) rfl rfl, rfl, jj_m (i := 40) rfl rfl, by decide +kernel, by decide +kernel, by decide +kernel, by decide⟩
set_option maxRecDepth 20000 in
theorem okX5_must : jj_okM mX5_must := ⟨by decide +kernel, jj_m (i := 773) rfl rfl, rfl, jj_m (i := 40) rfl rfl, by decide +kernel, by decide +kernel, by decide +kernel, by decide⟩
set_option maxRecDepth 20000 in
theorem okX5_floor : jj_okM mX5_floor := ⟨by decide +kernel, jj_m (i := 780) rfl rfl, rfl, jj_m (i := 40) rfl rfl, by decide +kernel, by decide +kernel, by decide +kernel, by decide⟩
set_option maxRecDepth 20000 in
theorem okX5_span : jj_okM mX5_span := ⟨by decide +kernel, jj_m (i := 777) rfl rfl, rfl, jj_m (i := 40) rfl rfl, by decide +kernel, by decide +kernel, by decide +kernel, by decide⟩
set_option maxRecDepth 20000 in
theorem okX5_put : jj_okM mX5_put := ⟨by decide +kernel, jj_m (i := 784) rfl rfl, rfl, jj_m (i := 40) rfl rfl, by decide +kernel, by decide +kernel, by decide +kernel, by decide⟩
set_option maxRecDepth 20000 in
theorem okX5_worth : jj_okM mX5_worth := ⟨by decide +kernel, jj_m (i := 788) rfl rfl, rfl, jj_m (i := 40) rfl rfl, by decide +kernel, by decide +kernel, by decide +kernel, by decide⟩
set_option maxRecDepth 20000 in
theorem okX5_broken : jj_okM mX5_broken := ⟨by decide +kernel, jj_m (i := 792) rfl rfl, rfl, jj_m (i := 40) rfl rfl, by decide +kernel, by decide +kernel, by decide +kernel, by decide⟩
set_option maxRecDepth 20000 in
theorem okX5_addRow : jj_okM mX5_addRow := ⟨by decide +kernel, jj_m (i := 808) rfl rfl, rfl, jj_m (i := 40) rfl rfl, by decide +kernel, by decide +kernel, by decide +kernel, by decide⟩
set_option maxRecDepth 20000 in
theorem okX5_rowsNow : jj_okM mX5_rowsNow := ⟨by decide +kernel, jj_m (i := 804) rfl rfl, rfl, jj_m (i := 40) rfl rfl, by decide +kernel, by decide +kernel, by decide +kernel, by decide⟩
set_option maxRecDepth 20000 in
theorem okX5_determinant : jj_okM mX5_determinant := ⟨by decide +kernel, jj_m (i := 816) rfl rfl, rfl, jj_m (i := 40) rfl rfl, by decide +kernel, by decide +kernel, by decide +kernel, by decide⟩
set_option maxRecDepth 20000 in
theorem okX5_isPriced : jj_okM mX5_isPriced := ⟨by decide +kernel, jj_m (i := 812) rfl rfl, rfl, jj_m (i := 40) rfl rfl, by decide +kernel, by decide +kernel, by decide +kernel, by decide⟩
set_option maxRecDepth 20000 in
theorem okX5_shares : jj_okM mX5_shares := ⟨by decide +kernel, jj_m (i := 800) rfl rfl, rfl, jj_m (i := 40) rfl rfl, by decide +kernel, by decide +kernel, by decide +kernel, by decide⟩
set_option maxRecDepth 20000 in
theorem okX5_part : jj_okM mX5_part := ⟨by decide +kernel, jj_m (i := 819) rfl rfl, rfl, jj_m (i := 40) rfl rfl, by decide +kernel, by decide +kernel, by decide +kernel, by decide⟩
set_option maxRecDepth 20000 in
theorem okX5_share : jj_okM mX5_share := ⟨by decide +kernel, jj_m (i := 796) rfl rfl, rfl, jj_m (i := 40) rfl rfl, by decide +kernel, by decide +kernel, by decide +kernel, by decide⟩
set_option maxRecDepth 20000 in
theorem okX5_isPrice : jj_okM mX5_isPrice := ⟨by decide +kernel, jj_m (i := 827) rfl rfl, rfl, jj_m (i := 40) rfl rfl, by decide +kernel, by decide +kernel, by decide +kernel, by decide⟩
set_option maxRecDepth 20000 in
theorem okX5_sharePrice : jj_okM mX5_sharePrice := ⟨by decide +kernel, jj_m (i := 823) rfl rfl, rfl, jj_m (i := 40) rfl rfl, by decide +kernel, by decide +kernel, by decide +kernel, by decide⟩
set_option maxRecDepth 20000 in
theorem okX5_holds : jj_okM mX5_holds := ⟨by decide +kernel, jj_m (i := 832) rfl rfl, rfl, jj_m (i := 40) rfl rfl, by decide +kernel, by decide +kernel, by decide +kernel, by decide⟩
set_option maxRecDepth 20000 in
theorem okX5_gap : jj_okM mX5_gap := ⟨by decide +kernel, jj_m (i := 837) rfl rfl, rfl, jj_m (i := 40) rfl rfl, by decide +kernel, by decide +kernel, by decide +kernel, by decide⟩
set_option maxRecDepth 20000 in
theorem okX5_told : jj_okM mX5_told := ⟨by decide +kernel, jj_m (i := 841) rfl rfl, rfl, jj_m (i := 40) rfl rfl, by decide +kernel, by decide +kernel, by decide +kernel, by decide⟩
set_option maxRecDepth 20000 in
theorem okJ6_bitCount_0f7a4 : jj_okM mJ6_bitCount_0f7a4 := ⟨by decide +kernel, jj_m (i := 483) rfl rfl, rfl, jj_m (i := 43) rfl rfl, by decide +kernel, by decide +kernel, by decide +kernel, by decide⟩
set_option maxRecDepth 20000 in
theorem okJ9_floorDiv_7cf53 : jj_okM mJ9_floorDiv_7cf53 := ⟨by decide +kernel, jj_m (i := 432) rfl rfl, rfl, jj_m (i := 42) rfl rfl, by decide +kernel, by decide +kernel, by decide +kernel, by decide⟩
set_option maxRecDepth 20000 in
theorem okJ9_abs_067f4 : jj_okM mJ9_abs_067f4 := ⟨by decide +kernel, jj_m (i := 504) rfl rfl, rfl, jj_m (i := 42) rfl rfl, by decide +kernel, by decide +kernel, by decide +kernel, by decide⟩
set_option maxRecDepth 20000 in
theorem okJ9_max_7cf53 : jj_okM mJ9_max_7cf53 := ⟨by decide +kernel, jj_m (i := 339) rfl rfl, rfl, jj_m (i := 42) rfl rfl, by decide +kernel, by decide +kernel, by decide +kernel, by decide⟩
set_option maxRecDepth 20000 in
theorem okJ9_max_f86c9 : jj_okM mJ9_max_f86c9 := ⟨by decide +kernel, jj_m (i := 515) rfl rfl, rfl, jj_m (i := 42) rfl rfl, by decide +kernel, by decide +kernel, by decide +kernel, by decide⟩
set_option maxRecDepth 20000 in
theorem okJ9_min_7cf53 : jj_okM mJ9_min_7cf53 := ⟨by decide +kernel, jj_m (i := 331) rfl rfl, rfl, jj_m (i := 42) rfl rfl, by decide +kernel, by decide +kernel, by decide +kernel, by decide⟩
set_option maxRecDepth 20000 in
theorem okJ9_min_f86c9 : jj_okM mJ9_min_f86c9 := ⟨by decide +kernel, jj_m (i := 556) rfl rfl, rfl, jj_m (i := 42) rfl rfl, by decide +kernel, by decide +kernel, by decide +kernel, by decide⟩
set_option maxRecDepth 20000 in
theorem okJ7_fill_53178 : jj_okM mJ7_fill_53178 := ⟨by decide +kernel, jj_m (i := 307) rfl rfl, rfl, jj_m (i := 41) rfl rfl, by decide +kernel, by decide +kernel, by decide +kernel, by decide⟩
set_option maxRecDepth 20000 in
theorem jj_mv_ok_1 : ∀ e ∈ jj_mvL 1, jj_okM e.2 ∧ Cond.methodLink (jj_R 1) e.1 e.2.1.1 ∈ jj_wl ∧ Cond.instanceMethod e.2.1.1 ∈ jj_wl ∧ Cond.selects e.2.1.1.cls e.2.1.1 e.2.1.1 ∈ jj_wl := List.forall_mem_cons.mpr ⟨⟨okX1_tryCorner, jj_m (i := 477) rfl rfl, jj_m (i := 479) rfl rfl, jj_m (i := 13) rfl rfl⟩, List.forall_mem_cons.mpr ⟨⟨okX0_countsForShares, jj_m (i := 473) rfl rfl, jj_m (i := 474) rfl rfl, jj_m (i := 475) rfl rfl⟩, List.forall_mem_cons.mpr ⟨⟨okX1_writeEquations, jj_m (i := 487) rfl rfl, jj_m (i := 489) rfl rfl, jj_m (i := 14) rfl rfl⟩, List.forall_mem_cons.mpr ⟨⟨okX1_writePrices, jj_m (i := 494) rfl rfl, jj_m (i := 496) rfl rfl, jj_m (i := 15) rfl rfl⟩, List.forall_mem_cons.mpr ⟨⟨okX1_boundAt, jj_m (i := 505) rfl rfl, jj_m (i := 507) rfl rfl, jj_m (i := 17) rfl rfl⟩, List.forall_mem_cons.mpr ⟨⟨okX1_swapDues, jj_m (i := 498) rfl rfl, jj_m (i := 500) rfl rfl, jj_m (i := 16) rfl rfl⟩, List.forall_mem_cons.mpr ⟨⟨okX1_slope, jj_m (i := 509) rfl rfl, jj_m (i := 510) rfl rfl, jj_m (i := 511) rfl rfl⟩, List.forall_mem_cons.mpr ⟨⟨okX1_boundAbove, jj_m (i := 520) rfl rfl, jj_m (i := 522) rfl rfl, jj_m (i := 18) rfl rfl⟩, List.forall_mem_cons.mpr ⟨⟨okX1_slopeBelow, jj_m (i := 540) rfl rfl, jj_m (i := 542) rfl rfl, jj_m (i := 19) rfl rfl⟩, fun _ h => absurd h List.not_mem_nil⟩⟩⟩⟩⟩⟩⟩⟩⟩
set_option maxRecDepth 20000 in
theorem jj_mv_ok_2 : ∀ e ∈ jj_mvL 2, jj_okM e.2 ∧ Cond.methodLink (jj_R 2) e.1 e.2.1.1 ∈ jj_wl ∧ Cond.instanceMethod e.2.1.1 ∈ jj_wl ∧ Cond.selects e.2.1.1.cls e.2.1.1 e.2.1.1 ∈ jj_wl := List.forall_mem_cons.mpr ⟨⟨okX3_begin, jj_m (i := 308) rfl rfl, jj_m (i := 309) rfl rfl, jj_m (i := 310) rfl rfl⟩, List.forall_mem_cons.mpr ⟨⟨okX3_plans, jj_m (i := 313) rfl rfl, jj_m (i := 314) rfl rfl, jj_m (i := 315) rfl rfl⟩, List.forall_mem_cons.mpr ⟨⟨okX2_lookAt, jj_m (i := 317) rfl rfl, jj_m (i := 319) rfl rfl, jj_m (i := 5) rfl rfl⟩, List.forall_mem_cons.mpr ⟨⟨okX3_step, jj_m (i := 348) rfl rfl, jj_m (i := 349) rfl rfl, jj_m (i := 350) rfl rfl⟩, List.forall_mem_cons.mpr ⟨⟨okX3_firstOver, jj_m (i := 321) rfl rfl, jj_m (i := 322) rfl rfl, jj_m (i := 323) rfl rfl⟩, List.forall_mem_cons.mpr ⟨⟨okX2_noteFitting, jj_m (i := 333) rfl rfl, jj_m (i := 335) rfl rfl, jj_m (i := 7) rfl rfl⟩, List.forall_mem_cons.mpr ⟨⟨okX2_noteBetter, jj_m (i := 340) rfl rfl, jj_m (i := 342) rfl rfl, jj_m (i := 8) rfl rfl⟩, List.forall_mem_cons.mpr ⟨⟨okX2_noteEqual, jj_m (i := 344) rfl rfl, jj_m (i := 346) rfl rfl, jj_m (i := 9) rfl rfl⟩, List.forall_mem_cons.mpr ⟨⟨okX2_gainWithout, jj_m (i := 400) rfl rfl, jj_m (i := 389) rfl rfl, jj_m (i := 390) rfl rfl⟩, List.forall_mem_cons.mpr ⟨⟨okX2_greatestWith, jj_m (i := 425) rfl rfl, jj_m (i := 414) rfl rfl, jj_m (i := 415) rfl rfl⟩, List.forall_mem_cons.mpr ⟨⟨okX2_restWith, jj_m (i := 426) rfl rfl, jj_m (i := 428) rfl rfl, jj_m (i := 11) rfl rfl⟩, fun _ h => absurd h List.not_mem_nil⟩⟩⟩⟩⟩⟩⟩⟩⟩⟩⟩
set_option maxRecDepth 20000 in
theorem jj_mv_ok_3 : ∀ e ∈ jj_mvL 3, jj_okM e.2 ∧ Cond.methodLink (jj_R 3) e.1 e.2.1.1 ∈ jj_wl ∧ Cond.instanceMethod e.2.1.1 ∈ jj_wl ∧ Cond.selects e.2.1.1.cls e.2.1.1 e.2.1.1 ∈ jj_wl := List.forall_mem_cons.mpr ⟨⟨okX3_shift, jj_m (i := 352) rfl rfl, jj_m (i := 354) rfl rfl, jj_m (i := 10) rfl rfl⟩, List.forall_mem_cons.mpr ⟨⟨okX3_load, jj_m (i := 325) rfl rfl, jj_m (i := 327) rfl rfl, jj_m (i := 6) rfl rfl⟩, List.forall_mem_cons.mpr ⟨⟨okX3_plans, jj_m (i := 381) rfl rfl, jj_m (i := 314) rfl rfl, jj_m (i := 315) rfl rfl⟩, List.forall_mem_cons.mpr ⟨⟨okX3_firstOver, jj_m (i := 382) rfl rfl, jj_m (i := 322) rfl rfl, jj_m (i := 323) rfl rfl⟩, List.forall_mem_cons.mpr ⟨⟨okX3_step, jj_m (i := 383) rfl rfl, jj_m (i := 349) rfl rfl, jj_m (i := 350) rfl rfl⟩, fun _ h => absurd h List.not_mem_nil⟩⟩⟩⟩⟩
set_option maxRecDepth 20000 in
theorem jj_mv_ok_4 : ∀ e ∈ jj_mvL 4, jj_okM e.2 ∧ Cond.methodLink (jj_R 4) e.1 e.2.1.1 ∈ jj_wl ∧ Cond.instanceMethod e.2.1.1 ∈ jj_wl ∧ Cond.selects e.2.1.1.cls e.2.1.1 e.2.1.1 ∈ jj_wl := List.forall_mem_cons.mpr ⟨⟨okX4_markChanged, jj_m (i := 245) rfl rfl, jj_m (i := 247) rfl rfl, jj_m (i := 0) rfl rfl⟩, List.forall_mem_cons.mpr ⟨⟨okX0_addThing, jj_m (i := 249) rfl rfl, jj_m (i := 250) rfl rfl, jj_m (i := 251) rfl rfl⟩, List.forall_mem_cons.mpr ⟨⟨okX4_isThing, jj_m (i := 260) rfl rfl, jj_m (i := 262) rfl rfl, jj_m (i := 1) rfl rfl⟩, List.forall_mem_cons.mpr ⟨⟨okX0_addRule, jj_m (i := 264) rfl rfl, jj_m (i := 265) rfl rfl, jj_m (i := 266) rfl rfl⟩, List.forall_mem_cons.mpr ⟨⟨okX0_pair, jj_m (i := 268) rfl rfl, jj_m (i := 269) rfl rfl, jj_m (i := 270) rfl rfl⟩, List.forall_mem_cons.mpr ⟨⟨okX4_isRule, jj_m (i := 276) rfl rfl, jj_m (i := 278) rfl rfl, jj_m (i := 2) rfl rfl⟩, List.forall_mem_cons.mpr ⟨⟨okX4_replace, jj_m (i := 280) rfl rfl, jj_m (i := 282) rfl rfl, jj_m (i := 3) rfl rfl⟩, List.forall_mem_cons.mpr ⟨⟨okX4_freshSurvey, jj_m (i := 296) rfl rfl, jj_m (i := 298) rfl rfl, jj_m (i := 4) rfl rfl⟩, List.forall_mem_cons.mpr ⟨⟨okX3_begin, jj_m (i := 372) rfl rfl, jj_m (i := 309) rfl rfl, jj_m (i := 310) rfl rfl⟩, List.forall_mem_cons.mpr ⟨⟨okX3_loosen, jj_m (i := 373) rfl rfl, jj_m (i := 374) rfl rfl, jj_m (i := 375) rfl rfl⟩, List.forall_mem_cons.mpr ⟨⟨okX3_greatestFitting, jj_m (i := 377) rfl rfl, jj_m (i := 378) rfl rfl, jj_m (i := 379) rfl rfl⟩, List.forall_mem_cons.mpr ⟨⟨okX2_gainWithout, jj_m (i := 388) rfl rfl, jj_m (i := 389) rfl rfl, jj_m (i := 390) rfl rfl⟩, List.forall_mem_cons.mpr ⟨⟨okX2_rulesAhead, jj_m (i := 396) rfl rfl, jj_m (i := 397) rfl rfl, jj_m (i := 398) rfl rfl⟩, List.forall_mem_cons.mpr ⟨⟨okX3_allowOneMore, jj_m (i := 405) rfl rfl, jj_m (i := 406) rfl rfl, jj_m (i := 407) rfl rfl⟩, List.forall_mem_cons.mpr ⟨⟨okX2_greatestWith, jj_m (i := 413) rfl rfl, jj_m (i := 414) rfl rfl, jj_m (i := 415) rfl rfl⟩, List.forall_mem_cons.mpr ⟨⟨okX2_spanTop, jj_m (i := 421) rfl rfl, jj_m (i := 422) rfl rfl, jj_m (i := 423) rfl rfl⟩, List.forall_mem_cons.mpr ⟨⟨okX2_spanBottom, jj_m (i := 434) rfl rfl, jj_m (i := 435) rfl rfl, jj_m (i := 436) rfl rfl⟩, List.forall_mem_cons.mpr ⟨⟨okX3_goTo, jj_m (i := 446) rfl rfl, jj_m (i := 447) rfl rfl, jj_m (i := 448) rfl rfl⟩, List.forall_mem_cons.mpr ⟨⟨okX3_firstOver, jj_m (i := 454) rfl rfl, jj_m (i := 322) rfl rfl, jj_m (i := 323) rfl rfl⟩, List.forall_mem_cons.mpr ⟨⟨okX4_freshCorners, jj_m (i := 459) rfl rfl, jj_m (i := 461) rfl rfl, jj_m (i := 12) rfl rfl⟩, List.forall_mem_cons.mpr ⟨⟨okX1_leastBound, jj_m (i := 516) rfl rfl, jj_m (i := 517) rfl rfl, jj_m (i := 518) rfl rfl⟩, List.forall_mem_cons.mpr ⟨⟨okX1_leastBoundFlattest, jj_m (i := 536) rfl rfl, jj_m (i := 537) rfl rfl, jj_m (i := 538) rfl rfl⟩, List.forall_mem_cons.mpr ⟨⟨okX1_slope, jj_m (i := 544) rfl rfl, jj_m (i := 510) rfl rfl, jj_m (i := 511) rfl rfl⟩, List.forall_mem_cons.mpr ⟨⟨okX1_reach, jj_m (i := 549) rfl rfl, jj_m (i := 550) rfl rfl, jj_m (i := 551) rfl rfl⟩, List.forall_mem_cons.mpr ⟨⟨okX4_toldCount, jj_m (i := 565) rfl rfl, jj_m (i := 567) rfl rfl, jj_m (i := 20) rfl rfl⟩, List.forall_mem_cons.mpr ⟨⟨okX0_rulesOn, jj_m (i := 569) rfl rfl, jj_m (i := 570) rfl rfl, jj_m (i := 571) rfl rfl⟩, List.forall_mem_cons.mpr ⟨⟨okX2_lookAtAll, jj_m (i := 300) rfl rfl, jj_m (i := 301) rfl rfl, jj_m (i := 302) rfl rfl⟩, List.forall_mem_cons.mpr ⟨⟨okX1_find, jj_m (i := 463) rfl rfl, jj_m (i := 464) rfl rfl, jj_m (i := 465) rfl rfl⟩, fun _ h => absurd h List.not_mem_nil⟩⟩⟩⟩⟩⟩⟩⟩⟩⟩⟩⟩⟩⟩⟩⟩⟩⟩⟩⟩⟩⟩⟩⟩⟩⟩⟩⟩
set_option maxRecDepth 20000 in
theorem jj_mv_ok_5 : ∀ e ∈ jj_mvL 5, jj_okM e.2 ∧ Cond.methodLink (jj_R 5) e.1 e.2.1.1 ∈ jj_wl ∧ Cond.instanceMethod e.2.1.1 ∈ jj_wl ∧ Cond.selects e.2.1.1.cls e.2.1.1 e.2.1.1 ∈ jj_wl := List.forall_mem_cons.mpr ⟨⟨okX5_isThing, jj_m (i := 694) rfl rfl, jj_m (i := 696) rfl rfl, jj_m (i := 21) rfl rfl⟩, List.forall_mem_cons.mpr ⟨⟨okX5_isRule, jj_m (i := 702) rfl rfl, jj_m (i := 704) rfl rfl, jj_m (i := 22) rfl rfl⟩, List.forall_mem_cons.mpr ⟨⟨okX5_isAs, jj_m (i := 728) rfl rfl, jj_m (i := 730) rfl rfl, jj_m (i := 25) rfl rfl⟩, List.forall_mem_cons.mpr ⟨⟨okX5_fits, jj_m (i := 724) rfl rfl, jj_m (i := 726) rfl rfl, jj_m (i := 24) rfl rfl⟩, List.forall_mem_cons.mpr ⟨⟨okX5_take, jj_m (i := 732) rfl rfl, jj_m (i := 734) rfl rfl, jj_m (i := 26) rfl rfl⟩, List.forall_mem_cons.mpr ⟨⟨okX5_valueOf, jj_m (i := 736) rfl rfl, jj_m (i := 738) rfl rfl, jj_m (i := 27) rfl rfl⟩, List.forall_mem_cons.mpr ⟨⟨okX5_look, jj_m (i := 720) rfl rfl, jj_m (i := 722) rfl rfl, jj_m (i := 23) rfl rfl⟩, List.forall_mem_cons.mpr ⟨⟨okX5_value, jj_m (i := 756) rfl rfl, jj_m (i := 716) rfl rfl, jj_m (i := 717) rfl rfl⟩, List.forall_mem_cons.mpr ⟨⟨okX5_weight, jj_m (i := 765) rfl rfl, jj_m (i := 758) rfl rfl, jj_m (i := 759) rfl rfl⟩, List.forall_mem_cons.mpr ⟨⟨okX5_addRow, jj_m (i := 805) rfl rfl, jj_m (i := 807) rfl rfl, jj_m (i := 30) rfl rfl⟩, List.forall_mem_cons.mpr ⟨⟨okX5_determinant, jj_m (i := 813) rfl rfl, jj_m (i := 815) rfl rfl, jj_m (i := 32) rfl rfl⟩, List.forall_mem_cons.mpr ⟨⟨okX5_rowsNow, jj_m (i := 801) rfl rfl, jj_m (i := 803) rfl rfl, jj_m (i := 29) rfl rfl⟩, List.forall_mem_cons.mpr ⟨⟨okX5_isPriced, jj_m (i := 809) rfl rfl, jj_m (i := 811) rfl rfl, jj_m (i := 31) rfl rfl⟩, List.forall_mem_cons.mpr ⟨⟨okX5_shares, jj_m (i := 797) rfl rfl, jj_m (i := 799) rfl rfl, jj_m (i := 28) rfl rfl⟩, List.forall_mem_cons.mpr ⟨⟨okX5_isPrice, jj_m (i := 824) rfl rfl, jj_m (i := 826) rfl rfl, jj_m (i := 33) rfl rfl⟩, fun _ h => absurd h List.not_mem_nil⟩⟩⟩⟩⟩⟩⟩⟩⟩⟩⟩⟩⟩⟩⟩
set_option maxRecDepth 20000 in
theorem jj_mv_ok_8 : ∀ e ∈ jj_mvL 8, jj_okM e.2 ∧ Cond.methodLink (jj_R 8) e.1 e.2.1.1 ∈ jj_wl ∧ Cond.instanceMethod e.2.1.1 ∈ jj_wl ∧ Cond.selects e.2.1.1.cls e.2.1.1 e.2.1.1 ∈ jj_wl := List.forall_mem_cons.mpr ⟨⟨okX4_thing, jj_m (i := 233) rfl rfl, jj_m (i := 234) rfl rfl, jj_m (i := 235) rfl rfl⟩, List.forall_mem_cons.mpr ⟨⟨okX5_thing, jj_m (i := 673) rfl rfl, jj_m (i := 674) rfl rfl, jj_m (i := 675) rfl rfl⟩, List.forall_mem_cons.mpr ⟨⟨okX4_rule, jj_m (i := 253) rfl rfl, jj_m (i := 254) rfl rfl, jj_m (i := 255) rfl rfl⟩, List.forall_mem_cons.mpr ⟨⟨okX5_rule, jj_m (i := 685) rfl rfl, jj_m (i := 686) rfl rfl, jj_m (i := 687) rfl rfl⟩, List.forall_mem_cons.mpr ⟨⟨okX4_amount, jj_m (i := 272) rfl rfl, jj_m (i := 273) rfl rfl, jj_m (i := 274) rfl rfl⟩, List.forall_mem_cons.mpr ⟨⟨okX5_amount, jj_m (i := 698) rfl rfl, jj_m (i := 699) rfl rfl, jj_m (i := 700) rfl rfl⟩, List.forall_mem_cons.mpr ⟨⟨okX4_on, jj_m (i := 284) rfl rfl, jj_m (i := 285) rfl rfl, jj_m (i := 286) rfl rfl⟩, List.forall_mem_cons.mpr ⟨⟨okX5_on, jj_m (i := 707) rfl rfl, jj_m (i := 708) rfl rfl, jj_m (i := 709) rfl rfl⟩, List.forall_mem_cons.mpr ⟨⟨okX4_set, jj_m (i := 288) rfl rfl, jj_m (i := 289) rfl rfl, jj_m (i := 290) rfl rfl⟩, List.forall_mem_cons.mpr ⟨⟨okX5_set, jj_m (i := 711) rfl rfl, jj_m (i := 712) rfl rfl, jj_m (i := 713) rfl rfl⟩, List.forall_mem_cons.mpr ⟨⟨okX4_value, jj_m (i := 292) rfl rfl, jj_m (i := 293) rfl rfl, jj_m (i := 294) rfl rfl⟩, List.forall_mem_cons.mpr ⟨⟨okX5_value, jj_m (i := 715) rfl rfl, jj_m (i := 716) rfl rfl, jj_m (i := 717) rfl rfl⟩, List.forall_mem_cons.mpr ⟨⟨okX4_counted, jj_m (i := 356) rfl rfl, jj_m (i := 357) rfl rfl, jj_m (i := 358) rfl rfl⟩, List.forall_mem_cons.mpr ⟨⟨okX5_counted, jj_m (i := 740) rfl rfl, jj_m (i := 741) rfl rfl, jj_m (i := 742) rfl rfl⟩, List.forall_mem_cons.mpr ⟨⟨okX4_first, jj_m (i := 360) rfl rfl, jj_m (i := 361) rfl rfl, jj_m (i := 362) rfl rfl⟩, List.forall_mem_cons.mpr ⟨⟨okX5_first, jj_m (i := 744) rfl rfl, jj_m (i := 745) rfl rfl, jj_m (i := 746) rfl rfl⟩, List.forall_mem_cons.mpr ⟨⟨okX4_fast, jj_m (i := 364) rfl rfl, jj_m (i := 365) rfl rfl, jj_m (i := 366) rfl rfl⟩, List.forall_mem_cons.mpr ⟨⟨okX5_fast, jj_m (i := 748) rfl rfl, jj_m (i := 749) rfl rfl, jj_m (i := 750) rfl rfl⟩, List.forall_mem_cons.mpr ⟨⟨okX4_price, jj_m (i := 368) rfl rfl, jj_m (i := 369) rfl rfl, jj_m (i := 370) rfl rfl⟩, List.forall_mem_cons.mpr ⟨⟨okX5_price, jj_m (i := 752) rfl rfl, jj_m (i := 753) rfl rfl, jj_m (i := 754) rfl rfl⟩, List.forall_mem_cons.mpr ⟨⟨okX4_weight, jj_m (i := 384) rfl rfl, jj_m (i := 385) rfl rfl, jj_m (i := 386) rfl rfl⟩, List.forall_mem_cons.mpr ⟨⟨okX5_weight, jj_m (i := 757) rfl rfl, jj_m (i := 758) rfl rfl, jj_m (i := 759) rfl rfl⟩, List.forall_mem_cons.mpr ⟨⟨okX4_rank, jj_m (i := 392) rfl rfl, jj_m (i := 393) rfl rfl, jj_m (i := 394) rfl rfl⟩, List.forall_mem_cons.mpr ⟨⟨okX5_rank, jj_m (i := 761) rfl rfl, jj_m (i := 762) rfl rfl, jj_m (i := 763) rfl rfl⟩, List.forall_mem_cons.mpr ⟨⟨okX4_more, jj_m (i := 401) rfl rfl, jj_m (i := 402) rfl rfl, jj_m (i := 403) rfl rfl⟩, List.forall_mem_cons.mpr ⟨⟨okX5_more, jj_m (i := 766) rfl rfl, jj_m (i := 767) rfl rfl, jj_m (i := 768) rfl rfl⟩, List.forall_mem_cons.mpr ⟨⟨okX4_must, jj_m (i := 409) rfl rfl, jj_m (i := 410) rfl rfl, jj_m (i := 411) rfl rfl⟩, List.forall_mem_cons.mpr ⟨⟨okX5_must, jj_m (i := 770) rfl rfl, jj_m (i := 771) rfl rfl, jj_m (i := 772) rfl rfl⟩, List.forall_mem_cons.mpr ⟨⟨okX4_span, jj_m (i := 417) rfl rfl, jj_m (i := 418) rfl rfl, jj_m (i := 419) rfl rfl⟩, List.forall_mem_cons.mpr ⟨⟨okX5_span, jj_m (i := 774) rfl rfl, jj_m (i := 775) rfl rfl, jj_m (i := 776) rfl rfl⟩, List.forall_mem_cons.mpr ⟨⟨okX4_put, jj_m (i := 438) rfl rfl, jj_m (i := 439) rfl rfl, jj_m (i := 440) rfl rfl⟩, List.forall_mem_cons.mpr ⟨⟨okX5_put, jj_m (i := 781) rfl rfl, jj_m (i := 782) rfl rfl, jj_m (i := 783) rfl rfl⟩, List.forall_mem_cons.mpr ⟨⟨okX4_worth, jj_m (i := 442) rfl rfl, jj_m (i := 443) rfl rfl, jj_m (i := 444) rfl rfl⟩, List.forall_mem_cons.mpr ⟨⟨okX5_worth, jj_m (i := 785) rfl rfl, jj_m (i := 786) rfl rfl, jj_m (i := 787) rfl rfl⟩, List.forall_mem_cons.mpr ⟨⟨okX4_broken, jj_m (i := 450) rfl rfl, jj_m (i := 451) rfl rfl, jj_m (i := 452) rfl rfl⟩, List.forall_mem_cons.mpr ⟨⟨okX5_broken, jj_m (i := 789) rfl rfl, jj_m (i := 790) rfl rfl, jj_m (i := 791) rfl rfl⟩, List.forall_mem_cons.mpr ⟨⟨okX4_share, jj_m (i := 455) rfl rfl, jj_m (i := 456) rfl rfl, jj_m (i := 457) rfl rfl⟩, List.forall_mem_cons.mpr ⟨⟨okX5_share, jj_m (i := 793) rfl rfl, jj_m (i := 794) rfl rfl, jj_m (i := 795) rfl rfl⟩, List.forall_mem_cons.mpr ⟨⟨okX4_sharePrice, jj_m (i := 531) rfl rfl, jj_m (i := 532) rfl rfl, jj_m (i := 533) rfl rfl⟩, List.forall_mem_cons.mpr ⟨⟨okX5_sharePrice, jj_m (i := 820) rfl rfl, jj_m (i := 821) rfl rfl, jj_m (i := 822) rfl rfl⟩, List.forall_mem_cons.mpr ⟨⟨okX4_holds, jj_m (i := 545) rfl rfl, jj_m (i := 546) rfl rfl, jj_m (i := 547) rfl rfl⟩, List.forall_mem_cons.mpr ⟨⟨okX5_holds, jj_m (i := 829) rfl rfl, jj_m (i := 830) rfl rfl, jj_m (i := 831) rfl rfl⟩, List.forall_mem_cons.mpr ⟨⟨okX4_gap, jj_m (i := 557) rfl rfl, jj_m (i := 558) rfl rfl, jj_m (i := 559) rfl rfl⟩, List.forall_mem_cons.mpr ⟨⟨okX5_gap, jj_m (i := 834) rfl rfl, jj_m (i := 835) rfl rfl, jj_m (i := 836) rfl rfl⟩, List.forall_mem_cons.mpr ⟨⟨okX4_told, jj_m (i := 561) rfl rfl, jj_m (i := 562) rfl rfl, jj_m (i := 563) rfl rfl⟩, List.forall_mem_cons.mpr ⟨⟨okX5_told, jj_m (i := 838) rfl rfl, jj_m (i := 839) rfl rfl, jj_m (i := 840) rfl rfl⟩, fun _ h => absurd h List.not_mem_nil⟩⟩⟩⟩⟩⟩⟩⟩⟩⟩⟩⟩⟩⟩⟩⟩⟩⟩⟩⟩⟩⟩⟩⟩⟩⟩⟩⟩⟩⟩⟩⟩⟩⟩⟩⟩⟩⟩⟩⟩⟩⟩⟩⟩⟩⟩
theorem jj_mv_ok : ∀ c : Nat, ∀ e ∈ jj_mvL c, jj_okM e.2 ∧ Cond.methodLink (jj_R c) e.1 e.2.1.1 ∈ jj_wl ∧ Cond.instanceMethod e.2.1.1 ∈ jj_wl ∧ Cond.selects e.2.1.1.cls e.2.1.1 e.2.1.1 ∈ jj_wl := fun c => match c with
  | 0 => fun _ h => absurd h List.not_mem_nil
  | 1 => jj_mv_ok_1
  | 2 => jj_mv_ok_2
  | 3 => jj_mv_ok_3
  | 4 => jj_mv_ok_4
  | 5 => jj_mv_ok_5
  | 6 => fun _ h => absurd h List.not_mem_nil
  | 7 => fun _ h => absurd h List.not_mem_nil
  | 8 => jj_mv_ok_8
  | 9 => fun _ h => absurd h List.not_mem_nil
  | _ + 10 => fun _ h => absurd h List.not_mem_nil
set_option maxRecDepth 20000 in
theorem jj_ms_ok_1 : ∀ e ∈ jj_msL 1, jj_okM e.2 ∧ Cond.methodLink (jj_R 1) e.1 e.2.1.1 ∈ jj_wl ∧ Cond.static e.2.1.1 ∈ jj_wl := List.forall_mem_cons.mpr ⟨⟨okX1_allCount, jj_m (i := 467) rfl rfl, jj_m (i := 468) rfl rfl⟩, List.forall_mem_cons.mpr ⟨⟨okX1_has, jj_m (i := 470) rfl rfl, jj_m (i := 471) rfl rfl⟩, List.forall_mem_cons.mpr ⟨⟨okJ6_bitCount_0f7a4, jj_m (i := 481) rfl rfl, jj_m (i := 482) rfl rfl⟩, List.forall_mem_cons.mpr ⟨⟨okX1_determinant, jj_m (i := 491) rfl rfl, jj_m (i := 492) rfl rfl⟩, List.forall_mem_cons.mpr ⟨⟨okJ9_abs_067f4, jj_m (i := 502) rfl rfl, jj_m (i := 503) rfl rfl⟩, List.forall_mem_cons.mpr ⟨⟨okJ9_max_f86c9, jj_m (i := 513) rfl rfl, jj_m (i := 514) rfl rfl⟩, List.forall_mem_cons.mpr ⟨⟨okJ9_min_f86c9, jj_m (i := 554) rfl rfl, jj_m (i := 555) rfl rfl⟩, fun _ h => absurd h List.not_mem_nil⟩⟩⟩⟩⟩⟩⟩
set_option maxRecDepth 20000 in
theorem jj_ms_ok_2 : ∀ e ∈ jj_msL 2, jj_okM e.2 ∧ Cond.methodLink (jj_R 2) e.1 e.2.1.1 ∈ jj_wl ∧ Cond.static e.2.1.1 ∈ jj_wl := List.forall_mem_cons.mpr ⟨⟨okJ7_fill_53178, jj_m (i := 305) rfl rfl, jj_m (i := 306) rfl rfl⟩, List.forall_mem_cons.mpr ⟨⟨okJ9_max_7cf53, jj_m (i := 337) rfl rfl, jj_m (i := 338) rfl rfl⟩, List.forall_mem_cons.mpr ⟨⟨okJ9_floorDiv_7cf53, jj_m (i := 430) rfl rfl, jj_m (i := 431) rfl rfl⟩, List.forall_mem_cons.mpr ⟨⟨okJ9_min_7cf53, jj_m (i := 433) rfl rfl, jj_m (i := 330) rfl rfl⟩, fun _ h => absurd h List.not_mem_nil⟩⟩⟩⟩
set_option maxRecDepth 20000 in
theorem jj_ms_ok_3 : ∀ e ∈ jj_msL 3, jj_okM e.2 ∧ Cond.methodLink (jj_R 3) e.1 e.2.1.1 ∈ jj_wl ∧ Cond.static e.2.1.1 ∈ jj_wl := List.forall_mem_cons.mpr ⟨⟨okJ9_min_7cf53, jj_m (i := 329) rfl rfl, jj_m (i := 330) rfl rfl⟩, fun _ h => absurd h List.not_mem_nil⟩
set_option maxRecDepth 20000 in
theorem jj_ms_ok_4 : ∀ e ∈ jj_msL 4, jj_okM e.2 ∧ Cond.methodLink (jj_R 4) e.1 e.2.1.1 ∈ jj_wl ∧ Cond.static e.2.1.1 ∈ jj_wl := List.forall_mem_cons.mpr ⟨⟨okX4_isWorth, jj_m (i := 237) rfl rfl, jj_m (i := 238) rfl rfl⟩, List.forall_mem_cons.mpr ⟨⟨okX4_isCount, jj_m (i := 240) rfl rfl, jj_m (i := 241) rfl rfl⟩, List.forall_mem_cons.mpr ⟨⟨okX4_isLimit, jj_m (i := 257) rfl rfl, jj_m (i := 258) rfl rfl⟩, List.forall_mem_cons.mpr ⟨⟨okX4_inLowestTerms, jj_m (i := 524) rfl rfl, jj_m (i := 525) rfl rfl⟩, List.forall_mem_cons.mpr ⟨⟨okJ9_abs_067f4, jj_m (i := 527) rfl rfl, jj_m (i := 503) rfl rfl⟩, List.forall_mem_cons.mpr ⟨⟨okX4_commonDivisor, jj_m (i := 528) rfl rfl, jj_m (i := 529) rfl rfl⟩, fun _ h => absurd h List.not_mem_nil⟩⟩⟩⟩⟩⟩
set_option maxRecDepth 20000 in
theorem jj_ms_ok_5 : ∀ e ∈ jj_msL 5, jj_okM e.2 ∧ Cond.methodLink (jj_R 5) e.1 e.2.1.1 ∈ jj_wl ∧ Cond.static e.2.1.1 ∈ jj_wl := List.forall_mem_cons.mpr ⟨⟨okX5_in, jj_m (i := 679) rfl rfl, jj_m (i := 680) rfl rfl⟩, List.forall_mem_cons.mpr ⟨⟨okX5_isLimit, jj_m (i := 690) rfl rfl, jj_m (i := 691) rfl rfl⟩, List.forall_mem_cons.mpr ⟨⟨okX5_floor, jj_m (i := 778) rfl rfl, jj_m (i := 779) rfl rfl⟩, List.forall_mem_cons.mpr ⟨⟨okX5_part, jj_m (i := 817) rfl rfl, jj_m (i := 818) rfl rfl⟩, fun _ h => absurd h List.not_mem_nil⟩⟩⟩⟩
theorem jj_ms_ok : ∀ c : Nat, ∀ e ∈ jj_msL c, jj_okM e.2 ∧ Cond.methodLink (jj_R c) e.1 e.2.1.1 ∈ jj_wl ∧ Cond.static e.2.1.1 ∈ jj_wl := fun c => match c with
  | 0 => fun _ h => absurd h List.not_mem_nil
  | 1 => jj_ms_ok_1
  | 2 => jj_ms_ok_2
  | 3 => jj_ms_ok_3
  | 4 => jj_ms_ok_4
  | 5 => jj_ms_ok_5
  | 6 => fun _ h => absurd h List.not_mem_nil
  | 7 => fun _ h => absurd h List.not_mem_nil
  | 8 => fun _ h => absurd h List.not_mem_nil
  | 9 => fun _ h => absurd h List.not_mem_nil
  | _ + 10 => fun _ h => absurd h List.not_mem_nil
set_option maxRecDepth 20000 in
theorem inX0 : ∀ w ∈ wsX00, w ∈ jj_wl := by decide +kernel
set_option maxRecDepth 20000 in
theorem inX1 : ∀ w ∈ wsX10, w ∈ jj_wl := by decide +kernel
set_option maxRecDepth 20000 in
theorem inX2 : ∀ w ∈ wsX20, w ∈ jj_wl := by decide +kernel
set_option maxRecDepth 20000 in
theorem inX3 : ∀ w ∈ wsX30, w ∈ jj_wl := by decide +kernel
set_option maxRecDepth 20000 in
theorem inX4 : ∀ w ∈ wsX40, w ∈ jj_wl := by decide +kernel
set_option maxRecDepth 20000 in
theorem inX5 : ∀ w ∈ wsX50, w ∈ jj_wl := by decide +kernel
def jj_okC (ci : Nat) : Prop := vwCl[ci]? = some (jj_R ci, jj_T ci, jj_nf ci) ∧ (∀ w ∈ u_ws (jj_R ci) (jj_T ci) (jj_nf ci), w ∈ jj_wl) ∧ (∀ k, k < jj_nf ci → parseFieldDescriptor (jj_T ci k).2.2.1 = some (jj_fty ci k)) ∧ (∀ a, a < jj_nf ci → ∀ b, b < jj_nf ci → a ≠ b → (jj_T ci a).2.1 ≠ (jj_T ci b).2.1) ∧ (∀ k, k < jj_nf ci → (jj_fty ci k = .int ∨ jj_fty ci k = .boolean ∨ jj_fty ci k = .long) → (jj_T ci k).2.2.2 = false)
theorem okC0 : jj_okC 0 := ⟨rfl, inX0, tyX0_ok, nmX0, by decide +kernel⟩
theorem okC1 : jj_okC 1 := ⟨rfl, inX1, tyX1_ok, nmX1, by decide +kernel⟩
theorem okC2 : jj_okC 2 := ⟨rfl, inX2, tyX2_ok, nmX2, by decide +kernel⟩
theorem okC3 : jj_okC 3 := ⟨rfl, inX3, tyX3_ok, nmX3, by decide +kernel⟩
theorem okC4 : jj_okC 4 := ⟨rfl, inX4, tyX4_ok, nmX4, by decide +kernel⟩
theorem okC5 : jj_okC 5 := ⟨rfl, inX5, tyX5_ok, nmX5, by decide +kernel⟩
theorem jj_clsL {a ci : Nat} (h : jj_sh[a]? = some (.inl ci)) : a < jj_nc ∧ jj_okC ci := by
  have ha : a < 46 := (List.getElem?_eq_some_iff.mp h).1
  refine ⟨ha, ?_⟩
  have hm : (Sum.inl ci : Nat ⊕ (FieldType × Nat)) ∈ jj_sh := List.mem_of_getElem? h
  simp [jj_sh] at hm
  rcases hm with rfl | rfl | rfl | rfl | rfl | rfl
  all_goals first | exact okC0 | exact okC1 | exact okC2 | exact okC3 | exact okC4 | exact okC5
end
section
/-! A machine of our own over the cells of this system: what an instruction does to locals, operands and cells, as a function; runs of it; and that the machine does the same -/
abbrev jj_Hp : Type := (Nat → Nat → Int32) × (Nat → Nat → Int64) × (Nat × (Nat → Int32))
def jj_fld (c i : Nat) : Option (Nat × Nat) := (jj_fl c).lookup i
def jj_ldc (c i : Nat) : Option Int32 := (jj_ldL c).lookup i
def jj_ldl (c i : Nat) : Option Int64 := (jj_llL c).lookup i
def jj_mv (c i : Nat) : Option jj_M := (jj_mvL c).lookup i
def jj_ms (c i : Nat) : Option jj_M := (jj_msL c).lookup i
/-- an int written into a cell -/
def jj_iu (h : jj_Hp) (a k : Nat) (x : Int32) : jj_Hp := (fun q => if q = a then upd (h.1 a) k x else h.1 q, h.2)
def jj_lu (h : jj_Hp) (a k : Nat) (x : Int64) : jj_Hp := (h.1, (fun q => if q = a then vp_updL (h.2.1 a) k x else h.2.1 q), h.2.2)
/-- the law's own script, as a cell -/
abbrev jj_sc : Nat := 1000
def jj_clr : Value → Value
  | .long _ => .null
  | .double _ => .null
  | v => v
def jj_set : List Value → Nat → Value → List Value
  | [], _, _ => []
  | _ :: l, 0, v => v :: l
  | a :: l, 1, v => jj_clr a :: jj_set l 0 v
  | a :: l, i + 2, v => a :: jj_set l (i + 1) v
def jj_set2 (lc : List Value) (i : Nat) (v : Value) : List Value := (jj_set lc i v).set (i + 1) .null
def jj_ent : List Value → Nat → List Value
  | [], n => List.replicate n .null
  | .long x :: l, n => .long x :: .null :: jj_ent l (n - 2)
  | .int x :: l, n => .int x :: jj_ent l (n - 1)
  | .ref x :: l, n => .ref x :: jj_ent l (n - 1)
  | _ :: l, n => .null :: jj_ent l (n - 1)
def jj_wd : List Value → Nat
  | [] => 0
  | .long _ :: l => jj_wd l + 2
  | .int _ :: l => jj_wd l + 1
  | .ref _ :: l => jj_wd l + 1
  | _ :: _ => 1000
section JJ1
variable {α : Type}
def jj_i (st : List Value) (f : Int32 → List Value → Option α) : Option α := match st with
  | .int x :: r => f x r
  | _ => none
def jj_ii (st : List Value) (f : Int32 → Int32 → List Value → Option α) : Option α := match st with
  | .int y :: .int x :: r => f x y r
  | _ => none
def jj_l (st : List Value) (f : Int64 → List Value → Option α) : Option α := match st with
  | .long x :: r => f x r
  | _ => none
def jj_ll (st : List Value) (f : Int64 → Int64 → List Value → Option α) : Option α := match st with
  | .long y :: .long x :: r => f x y r
  | _ => none
def jj_r (st : List Value) (f : Nat → List Value → Option α) : Option α := match st with
  | .ref a :: r => f a r
  | _ => none
def jj_ri (st : List Value) (f : Nat → Int32 → List Value → Option α) : Option α := match st with
  | .int i :: .ref a :: r => f a i r
  | _ => none
def jj_rl (st : List Value) (f : Nat → Int64 → List Value → Option α) : Option α := match st with
  | .long i :: .ref a :: r => f a i r
  | _ => none
def jj_rii (st : List Value) (f : Nat → Int32 → Int32 → List Value → Option α) : Option α := match st with
  | .int x :: .int i :: .ref a :: r => f a i x r
  | _ => none
def jj_ril (st : List Value) (f : Nat → Int32 → Int64 → List Value → Option α) : Option α := match st with
  | .long x :: .int i :: .ref a :: r => f a i x r
  | _ => none
def jj_du (st : List Value) (f : Value → List Value → Option α) : Option α := match st with
  | .int x :: r => f (.int x) r
  | .ref x :: r => f (.ref x) r
  | _ => none
theorem jj_du_inv {st : List Value} {f : Value → List Value → Option α} {z : α} (h : jj_du st f = some z) : ∃ v r, st = v :: r ∧ v.category = 1 ∧ f v r = some z := by
  unfold jj_du at h; split at h
  · exact ⟨_, _, rfl, rfl, h⟩
  · exact ⟨_, _, rfl, rfl, h⟩
  · cases h
theorem jj_i_inv {st : List Value} {f : Int32 → List Value → Option α} {z : α} (h : jj_i st f = some z) : ∃ x r, st = .int x :: r ∧ f x r = some z := by
  unfold jj_i at h; split at h
  · exact ⟨_, _, rfl, h⟩
  · cases h
theorem jj_ii_inv {st : List Value} {f : Int32 → Int32 → List Value → Option α} {z : α} (h : jj_ii st f = some z) : ∃ x y r, st = .int y :: .int x :: r ∧ f x y r = some z := by
  unfold jj_ii at h; split at h
  · exact ⟨_, _, _, rfl, h⟩
  · cases h
theorem jj_l_inv {st : List Value} {f : Int64 → List Value → Option α} {z : α} (h : jj_l st f = some z) : ∃ x r, st = .long x :: r ∧ f x r = some z := by
  unfold jj_l at h; split at h
  · exact ⟨_, _, rfl, h⟩
  · cases h
theorem jj_ll_inv {st : List Value} {f : Int64 → Int64 → List Value → Option α} {z : α} (h : jj_ll st f = some z) : ∃ x y r, st = .long y :: .long x :: r ∧ f x y r = some z := by
  unfold jj_ll at h; split at h
  · exact ⟨_, _, _, rfl, h⟩
  · cases h
theorem jj_r_inv {st : List Value} {f : Nat → List Value → Option α} {z : α} (h : jj_r st f = some z) : ∃ a r, st = .ref a :: r ∧ f a r = some z := by
  unfold jj_r at h; split at h
  · exact ⟨_, _, rfl, h⟩
  · cases h
theorem jj_ri_inv {st : List Value} {f : Nat → Int32 → List Value → Option α} {z : α} (h : jj_ri st f = some z) : ∃ a i r, st = .int i :: .ref a :: r ∧ f a i r = some z := by
  unfold jj_ri at h; split at h
  · exact ⟨_, _, _, rfl, h⟩
  · cases h
theorem jj_rl_inv {st : List Value} {f : Nat → Int64 → List Value → Option α} {z : α} (h : jj_rl st f = some z) : ∃ a i r, st = .long i :: .ref a :: r ∧ f a i r = some z := by
  unfold jj_rl at h; split at h
  · exact ⟨_, _, _, rfl, h⟩
  · cases h
theorem jj_rii_inv {st : List Value} {f : Nat → Int32 → Int32 → List Value → Option α} {z : α} (h : jj_rii st f = some z) : ∃ a i x r, st = .int x :: .int i :: .ref a :: r ∧ f a i x r = some z := by
  unfold jj_rii at h; split at h
  · exact ⟨_, _, _, _, rfl, h⟩
  · cases h
theorem jj_ril_inv {st : List Value} {f : Nat → Int32 → Int64 → List Value → Option α} {z : α} (h : jj_ril st f = some z) : ∃ a i x r, st = .long x :: .int i :: .ref a :: r ∧ f a i x r = some z := by
  unfold jj_ril at h; split at h
  · exact ⟨_, _, _, _, rfl, h⟩
  · cases h
end JJ1
def jj_gi (lc : List Value) (i : Nat) : Option Int32 := match lc[i]? with
  | some (.int x) => some x
  | _ => none
def jj_gl (lc : List Value) (i : Nat) : Option Int64 := match lc[i]? with
  | some (.long x) => some x
  | _ => none
def jj_gr (lc : List Value) (i : Nat) : Option Nat := match lc[i]? with
  | some (.ref x) => some x
  | _ => none
def jj_c1 (q : ClassFile.Cond) (x : Int32) : Bool := match q with
  | .eq => decide (x = 0)
  | .ne => !decide (x = 0)
  | .lt => decide (x < 0)
  | .ge => decide (0 ≤ x)
  | .gt => decide (0 < x)
  | .le => decide (x ≤ 0)
def jj_c2 (q : ClassFile.Cond) (x y : Int32) : Bool := match q with
  | .eq => decide (x = y)
  | .ne => !decide (x = y)
  | .lt => decide (x < y)
  | .ge => decide (y ≤ x)
  | .gt => decide (y < x)
  | .le => decide (x ≤ y)
def jj_inb (i : Int32) (n : Nat) : Bool := decide (0 ≤ i) && decide (i.toNatClampNeg < n)
def jj_tsw (dflt lo hi : Int) (offs : Array Int) (x : Int32) : Option Int :=
  if x.toInt < lo ∨ hi < x.toInt then some dflt else offs[(x.toInt - lo).toNat]?
def jj_jmp (pc : Nat) (off : Int) : Option Nat := if 0 ≤ (pc : Int) + off then some ((pc : Int) + off).toNat else none
abbrev jj_P : Type := Nat × List Value × List Value × jj_Hp
/-- what is read of an object's field -/
def jj_gf (h : jj_Hp) (a ci k : Nat) : Value := match jj_fty ci k with
  | .int => .int (h.1 a k)
  | .boolean => .int (h.1 a k)
  | .long => .long (h.2.1 a k)
  | _ => .ref (jj_rf a k)
def jj_b01 (x : Int32) : Bool := decide (x = 0) || decide (x = 1)
def jj_st (c : Nat) (ins : Instr) (pc : Nat) (lc st : List Value) (h : jj_Hp) : Option jj_P := match ins with
  | .iconst k => some (pc + 1, lc, .int (Int32.ofInt k) :: st, h)
  | .bipush k => some (pc + 2, lc, .int (Int8.ofInt k).toInt32 :: st, h)
  | .sipush k => some (pc + 3, lc, .int (Int16.ofInt k).toInt32 :: st, h)
  | .lconst k => some (pc + 1, lc, .long (Int64.ofNat (k : Nat)) :: st, h)
  | .ldc i => (jj_ldc c i).map fun v => (pc + 2, lc, .int v :: st, h)
  | .ldc_w i => (jj_ldc c i).map fun v => (pc + 3, lc, .int v :: st, h)
  | .ldc2_w i => (jj_ldl c i).map fun v => (pc + 3, lc, .long v :: st, h)
  | .iload i => (jj_gi lc i).map fun x => (pc + 2, lc, .int x :: st, h)
  | .iload_n i => (jj_gi lc i).map fun x => (pc + 1, lc, .int x :: st, h)
  | .lload i => (jj_gl lc i).map fun x => (pc + 2, lc, .long x :: st, h)
  | .lload_n i => (jj_gl lc i).map fun x => (pc + 1, lc, .long x :: st, h)
  | .aload i => (jj_gr lc i).map fun x => (pc + 2, lc, .ref x :: st, h)
  | .aload_n i => (jj_gr lc i).map fun x => (pc + 1, lc, .ref x :: st, h)
  | .istore i => jj_i st fun x r => if i < lc.length then some (pc + 2, jj_set lc i (.int x), r, h) else none
  | .istore_n i => jj_i st fun x r => if i < lc.length then some (pc + 1, jj_set lc i (.int x), r, h) else none
  | .lstore i => jj_l st fun x r => if i + 1 < lc.length then some (pc + 2, jj_set2 lc i (.long x), r, h) else none
  | .lstore_n i => jj_l st fun x r => if i + 1 < lc.length then some (pc + 1, jj_set2 lc i (.long x), r, h) else none
  | .astore i => jj_r st fun x r => if i < lc.length then some (pc + 2, jj_set lc i (.ref x), r, h) else none
  | .astore_n i => jj_r st fun x r => if i < lc.length then some (pc + 1, jj_set lc i (.ref x), r, h) else none
  | .iinc i k => (jj_gi lc i).map fun x => (pc + 3, jj_set lc i (.int (x + Int32.ofInt k)), st, h)
  | .dup => jj_du st fun v r => some (pc + 1, lc, v :: v :: r, h)
  | .dup2 => jj_ri st fun a i r => some (pc + 1, lc, .int i :: .ref a :: .int i :: .ref a :: r, h)
  | .iadd => jj_ii st fun x y r => some (pc + 1, lc, .int (x + y) :: r, h)
  | .isub => jj_ii st fun x y r => some (pc + 1, lc, .int (x - y) :: r, h)
  | .imul => jj_ii st fun x y r => some (pc + 1, lc, .int (x * y) :: r, h)
  | .iand => jj_ii st fun x y r => some (pc + 1, lc, .int (x &&& y) :: r, h)
  | .ior => jj_ii st fun x y r => some (pc + 1, lc, .int (x ||| y) :: r, h)
  | .ixor => jj_ii st fun x y r => some (pc + 1, lc, .int (x ^^^ y) :: r, h)
  | .idiv => jj_ii st fun x y r => if y = 0 then none else some (pc + 1, lc, .int (x / y) :: r, h)
  | .irem => jj_ii st fun x y r => if y = 0 then none else some (pc + 1, lc, .int (x - x / y * y) :: r, h)
  | .ineg => jj_i st fun x r => some (pc + 1, lc, .int (-x) :: r, h)
  | .ishl => jj_ii st fun x y r => some (pc + 1, lc, .int (x <<< (y &&& 31)) :: r, h)
  | .ishr => jj_ii st fun x y r => some (pc + 1, lc, .int (x >>> (y &&& 31)) :: r, h)
  | .iushr => jj_ii st fun x y r => some (pc + 1, lc, .int (x.toUInt32 >>> (y.toUInt32 &&& Int32.toUInt32 31)).toInt32 :: r, h)
  | .ladd => jj_ll st fun x y r => some (pc + 1, lc, .long (x + y) :: r, h)
  | .lsub => jj_ll st fun x y r => some (pc + 1, lc, .long (x - y) :: r, h)
  | .lmul => jj_ll st fun x y r => some (pc + 1, lc, .long (x * y) :: r, h)
  | .ldiv => jj_ll st fun x y r => if y = 0 then none else some (pc + 1, lc, .long (x / y) :: r, h)
  | .lrem => jj_ll st fun x y r => if y = 0 then none else some (pc + 1, lc, .long (x - x / y * y) :: r, h)
  | .lneg => jj_l st fun x r => some (pc + 1, lc, .long (-x) :: r, h)
  | .lcmp => jj_ll st fun x y r => some (pc + 1, lc, .int (lg_cmp x y) :: r, h)
  | .i2l => jj_i st fun x r => some (pc + 1, lc, .long x.toInt64 :: r, h)
  | .l2i => jj_l st fun x r => some (pc + 1, lc, .int x.toInt32 :: r, h)
  | .goto off => (jj_jmp pc off).map fun t => (t, lc, st, h)
  | .ifCond q off => jj_i st fun x r => (jj_jmp pc off).map fun t => (if jj_c1 q x then t else pc + 3, lc, r, h)
  | .if_icmp q off => jj_ii st fun x y r => (jj_jmp pc off).map fun t => (if jj_c2 q x y then t else pc + 3, lc, r, h)
  | .tableswitch dflt lo hi offs => jj_i st fun x r => (jj_tsw dflt lo hi offs x).bind fun off => (jj_jmp pc off).map fun t => (t, lc, r, h)
  | .getfield i => jj_r st fun a r => (jj_fld c i).bind fun q => if jj_sh[a]? = some (.inl q.1) ∧ q.2 < jj_nf q.1 then some (pc + 3, lc, jj_gf h a q.1 q.2 :: r, h) else none
  | .putfield i => (jj_fld c i).bind fun q => match jj_fty q.1 q.2 with
    | .int => jj_ri st fun a x r => if jj_sh[a]? = some (.inl q.1) ∧ q.2 < jj_nf q.1 then some (pc + 3, lc, r, jj_iu h a q.2 x) else none
    | .boolean => jj_ri st fun a x r => if jj_sh[a]? = some (.inl q.1) ∧ q.2 < jj_nf q.1 ∧ jj_b01 x = true then some (pc + 3, lc, r, jj_iu h a q.2 x) else none
    | .long => jj_rl st fun a x r => if jj_sh[a]? = some (.inl q.1) ∧ q.2 < jj_nf q.1 then some (pc + 3, lc, r, jj_lu h a q.2 x) else none
    | _ => none
  | .iaload => jj_ri st fun a i r => if a = jj_sc then (if jj_inb i h.2.2.1 then some (pc + 1, lc, .int (h.2.2.2 i.toNatClampNeg) :: r, h) else none)
      else match jj_sh[a]? with
      | some (.inr (.int, n)) => if jj_inb i n then some (pc + 1, lc, .int (h.1 a i.toNatClampNeg) :: r, h) else none
      | _ => none
  | .baload => jj_ri st fun a i r => match jj_sh[a]? with
      | some (.inr (.boolean, n)) => if jj_inb i n then some (pc + 1, lc, .int (h.1 a i.toNatClampNeg) :: r, h) else none
      | _ => none
  | .laload => jj_ri st fun a i r => match jj_sh[a]? with
      | some (.inr (.long, n)) => if jj_inb i n then some (pc + 1, lc, .long (h.2.1 a i.toNatClampNeg) :: r, h) else none
      | _ => none
  | .iastore => jj_rii st fun a i x r => match jj_sh[a]? with
      | some (.inr (.int, n)) => if jj_inb i n then some (pc + 1, lc, r, jj_iu h a i.toNatClampNeg x) else none
      | _ => none
  | .bastore => jj_rii st fun a i x r => match jj_sh[a]? with
      | some (.inr (.boolean, n)) => if jj_inb i n ∧ jj_b01 x = true then some (pc + 1, lc, r, jj_iu h a i.toNatClampNeg x) else none
      | _ => none
  | .lastore => jj_ril st fun a i x r => match jj_sh[a]? with
      | some (.inr (.long, n)) => if jj_inb i n then some (pc + 1, lc, r, jj_lu h a i.toNatClampNeg x) else none
      | _ => none
  | .arraylength => jj_r st fun a r => if a = jj_sc then some (pc + 1, lc, .int (Int32.ofNat h.2.2.1) :: r, h) else match jj_sh[a]? with
      | some (.inr (_, n)) => some (pc + 1, lc, .int (Int32.ofNat n) :: r, h)
      | _ => none
  | _ => none
/-- how long an instruction is -/
def jj_len (ins : Instr) (len : Nat) : Nat := match ins with
  | .bipush _ => 2
  | .sipush _ => 3
  | .ldc _ => 2
  | .ldc_w _ => 3
  | .ldc2_w _ => 3
  | .iload _ => 2
  | .lload _ => 2
  | .aload _ => 2
  | .istore _ => 2
  | .lstore _ => 2
  | .astore _ => 2
  | .iinc _ _ => 3
  | .goto _ => 3
  | .ifCond _ _ => 3
  | .if_icmp _ _ => 3
  | .tableswitch _ _ _ _ => len
  | .getfield _ => 3
  | .putfield _ => 3
  | .invokevirtual _ => 3
  | .invokestatic _ => 3
  | _ => 1
def jj_rok (ret : Option FieldType) (x : Int32) : Bool := match ret with
  | some .int => true
  | some .boolean => jj_b01 x
  | _ => false
def jj_aok (ret : Option FieldType) : Bool := match ret with
  | some (.object _) => true
  | some (.array _) => true
  | _ => false
/-- what a method gives back -/
def jj_fin (ret : Option FieldType) (ins : Instr) (st : List Value) : Option (Option Value) := match ins with
  | .ireturn => match st with
    | [.int x] => if jj_rok ret x then some (some (.int x)) else none
    | _ => none
  | .lreturn => match st with
    | [.long x] => if ret = some .long then some (some (.long x)) else none
    | _ => none
  | .areturn => match st with
    | [.ref x] => if jj_aok ret then some (some (.ref x)) else none
    | _ => none
  | .return_ => match st with
    | [] => if ret = none then some none else none
    | _ => none
  | _ => none
/-- the call that an instruction makes: the method, its arguments, what stays of the operands -/
def jj_cal (c : Nat) (ins : Instr) (st : List Value) : Option (jj_M × List Value × List Value) := match ins with
  | .invokevirtual i => (jj_mv c i).bind fun M => match st.drop M.2.2.2.2 with
    | .ref a :: r => if jj_sh[a]? = some (.inl M.2.2.2.1) ∧ (st.take M.2.2.2.2).length = M.2.2.2.2 then some (M, .ref a :: (st.take M.2.2.2.2).reverse, r) else none
    | _ => none
  | .invokestatic i => (jj_ms c i).bind fun M => if (st.take M.2.2.2.2).length = M.2.2.2.2 then some (M, (st.take M.2.2.2.2).reverse, st.drop M.2.2.2.2) else none
  | _ => none
def jj_cok (q : jj_M × List Value × List Value) : Bool := decide (jj_wd q.2.1 ≤ q.1.2.1) && decide ((q.2.2.map fun v => v.category).sum ≤ 8)
def jj_exec : Nat → Nat → jj_M → Nat → List Value → List Value → jj_Hp → Option (Option Value × jj_Hp)
  | 0, _, _, _, _, _, _ => none
  | n + 1, d, M, pc, lc, st, h => match decode M.1.2 pc with
    | .ok (ins, len) => if jj_len ins len = len then
        match jj_fin M.2.2.1 ins st with
        | some r => some (r, h)
        | none => match jj_cal M.2.2.2.1 ins st with
          | some q => if jj_cok q then
              match d with
              | 0 => none
              | d' + 1 => match jj_exec n d' q.1 0 (jj_ent q.2.1 q.1.2.1) [] h with
                | some (r, h1) => jj_exec n (d' + 1) M (pc + 3) lc (r.toList ++ q.2.2) h1
                | none => none
              else none
          | none => match jj_st M.2.2.2.1 ins pc lc st h with
            | some p => jj_exec n d M p.1 p.2.1 p.2.2.1 p.2.2.2
            | none => none
        else none
    | _ => none
end
section
/-! the machine does what our function says: one instruction -/
def jj_tr (ad : Nat → Nat) : Value → Value
  | .ref k => .ref (ad k)
  | v => v
def jj_ce (ad : Nat → Nat) (cA : Nat → ClassId) (h : jj_Hp) (a : Nat) : va_E := match jj_sh[a]? with
  | some (.inl ci) => .inr (ci, (List.range (jj_nf ci)).map fun k => jj_tr ad (jj_gf h a ci k))
  | some (.inr (.long, n)) => .inl (cA a, n, .inr (.inl (h.2.1 a)))
  | some (.inr (_, n)) => .inl (cA a, n, .inl (h.1 a))
  | none => .inr (0, [])
def jj_w (ad : Nat → Nat) (cA : Nat → ClassId) (h : jj_Hp) : va_W := (List.range jj_nc).map fun a => (ad a, jj_ce ad cA h a)
theorem jj_w_get {ad : Nat → Nat} {cA : Nat → ClassId} {h : jj_Hp} {a : Nat} (ha : a < jj_nc) : (jj_w ad cA h)[a]? = some (ad a, jj_ce ad cA h a) := by
  unfold jj_w
  rw [List.getElem?_map, List.getElem?_range ha]
  rfl
theorem jj_w_len {ad : Nat → Nat} {cA : Nat → ClassId} {h : jj_Hp} : (jj_w ad cA h).length = jj_nc := by
  unfold jj_w
  rw [List.length_map, List.length_range]
theorem jj_sh_lt {a : Nat} {x : Nat ⊕ (FieldType × Nat)} (h : jj_sh[a]? = some x) : a < jj_nc := (List.getElem?_eq_some_iff.mp h).1
theorem jj_ce_eq {ad : Nat → Nat} {cA : Nat → ClassId} {h h' : jj_Hp} {a : Nat} (h1 : h'.1 a = h.1 a) (h2 : h'.2.1 a = h.2.1 a) : jj_ce ad cA h' a = jj_ce ad cA h a := by
  unfold jj_ce jj_gf
  rw [h1, h2]
theorem jj_w_set {ad : Nat → Nat} {cA : Nat → ClassId} {h h' : jj_Hp} {a : Nat} {e : va_E} (he : e = jj_ce ad cA h' a) (ho : ∀ q, q ≠ a → h'.1 q = h.1 q ∧ h'.2.1 q = h.2.1 q) : (jj_w ad cA h).set a (ad a, e) = jj_w ad cA h' := by
  apply List.ext_getElem?
  intro i
  rw [List.getElem?_set]
  by_cases hi : i < jj_nc
  · by_cases hia : a = i
    · subst hia
      rw [if_pos rfl, if_pos (by rw [jj_w_len]; exact hi), jj_w_get hi, he]
    · rw [if_neg hia, jj_w_get hi, jj_w_get hi, jj_ce_eq (ho i (fun q => hia q.symm)).1 (ho i (fun q => hia q.symm)).2]
  · have hn : (jj_w ad cA h)[i]? = none := List.getElem?_eq_none (by rw [jj_w_len]; omega)
    have hn' : (jj_w ad cA h')[i]? = none := List.getElem?_eq_none (by rw [jj_w_len]; omega)
    rw [hn, hn']
    by_cases hia : a = i
    · rw [if_pos hia, if_neg (by rw [jj_w_len]; omega)]
    · rw [if_neg hia]
theorem jj_iu_at {h : jj_Hp} {a k : Nat} {x : Int32} : (jj_iu h a k x).1 a = upd (h.1 a) k x := by simp [jj_iu]
theorem jj_iu_ne {h : jj_Hp} {a k q : Nat} {x : Int32} (hq : q ≠ a) : (jj_iu h a k x).1 q = h.1 q := by simp [jj_iu, hq]
theorem jj_lu_at {h : jj_Hp} {a k : Nat} {x : Int64} : (jj_lu h a k x).2.1 a = vp_updL (h.2.1 a) k x := by simp [jj_lu]
theorem jj_lu_ne {h : jj_Hp} {a k q : Nat} {x : Int64} (hq : q ≠ a) : (jj_lu h a k x).2.1 q = h.2.1 q := by simp [jj_lu, hq]
theorem jj_iu_o {h : jj_Hp} {a k : Nat} {x : Int32} : ∀ q, q ≠ a → (jj_iu h a k x).1 q = h.1 q ∧ (jj_iu h a k x).2.1 q = h.2.1 q := fun q hq => ⟨jj_iu_ne hq, rfl⟩
theorem jj_lu_o {h : jj_Hp} {a k : Nat} {x : Int64} : ∀ q, q ≠ a → (jj_lu h a k x).1 q = h.1 q ∧ (jj_lu h a k x).2.1 q = h.2.1 q := fun q hq => ⟨rfl, jj_lu_ne hq⟩
theorem jj_ce_ob {ad : Nat → Nat} {cA : Nat → ClassId} {h : jj_Hp} {a ci : Nat} (hs : jj_sh[a]? = some (.inl ci)) : jj_ce ad cA h a = .inr (ci, (List.range (jj_nf ci)).map fun k => jj_tr ad (jj_gf h a ci k)) := by unfold jj_ce; rw [hs]
theorem jj_ce_i {ad : Nat → Nat} {cA : Nat → ClassId} {h : jj_Hp} {a n : Nat} (hs : jj_sh[a]? = some (.inr (.int, n))) : jj_ce ad cA h a = .inl (cA a, n, .inl (h.1 a)) := by unfold jj_ce; rw [hs]
theorem jj_ce_z {ad : Nat → Nat} {cA : Nat → ClassId} {h : jj_Hp} {a n : Nat} (hs : jj_sh[a]? = some (.inr (.boolean, n))) : jj_ce ad cA h a = .inl (cA a, n, .inl (h.1 a)) := by unfold jj_ce; rw [hs]
theorem jj_ce_l {ad : Nat → Nat} {cA : Nat → ClassId} {h : jj_Hp} {a n : Nat} (hs : jj_sh[a]? = some (.inr (.long, n))) : jj_ce ad cA h a = .inl (cA a, n, .inr (.inl (h.2.1 a))) := by unfold jj_ce; rw [hs]
theorem jj_fs_get {ad : Nat → Nat} {h : jj_Hp} {a ci k : Nat} (hk : k < jj_nf ci) : ((List.range (jj_nf ci)).map fun k => jj_tr ad (jj_gf h a ci k))[k]? = some (jj_tr ad (jj_gf h a ci k)) := by
  rw [List.getElem?_map, List.getElem?_range hk]; rfl
theorem jj_fs_set {ad : Nat → Nat} {h h' : jj_Hp} {a ci k : Nat} {v : Value} (hk : k < jj_nf ci) (hv : v = jj_tr ad (jj_gf h' a ci k)) (ho : ∀ j, j ≠ k → jj_gf h' a ci j = jj_gf h a ci j) : ((List.range (jj_nf ci)).map fun k => jj_tr ad (jj_gf h a ci k)).set k v = (List.range (jj_nf ci)).map fun k => jj_tr ad (jj_gf h' a ci k) := by
  apply List.ext_getElem?
  intro i
  rw [List.getElem?_set]
  by_cases hi : i < jj_nf ci
  · by_cases hia : k = i
    · subst hia
      rw [if_pos rfl, if_pos (by simpa using hi), jj_fs_get hi, hv]
    · rw [if_neg hia, jj_fs_get hi, jj_fs_get hi, ho i (fun q => hia q.symm)]
  · rw [List.getElem?_eq_none (by simp; omega), List.getElem?_eq_none (by simp; omega)]
    by_cases hia : k = i
    · omega
    · rw [if_neg hia]
theorem jj_gf_iu {h : jj_Hp} {a ci k j : Nat} {x : Int32} (hj : j ≠ k) : jj_gf (jj_iu h a k x) a ci j = jj_gf h a ci j := by
  unfold jj_gf
  rw [jj_iu_at, show upd (h.1 a) k x j = h.1 a j from if_neg hj]
  rfl
theorem jj_gf_lu {h : jj_Hp} {a ci k j : Nat} {x : Int64} (hj : j ≠ k) : jj_gf (jj_lu h a k x) a ci j = jj_gf h a ci j := by
  unfold jj_gf
  rw [jj_lu_at, show vp_updL (h.2.1 a) k x j = h.2.1 a j from if_neg hj]
  rfl
theorem jj_gf_int {h : jj_Hp} {a ci k : Nat} (hf : jj_fty ci k = .int) : jj_gf h a ci k = .int (h.1 a k) := by unfold jj_gf; rw [hf]
theorem jj_gf_bool {h : jj_Hp} {a ci k : Nat} (hf : jj_fty ci k = .boolean) : jj_gf h a ci k = .int (h.1 a k) := by unfold jj_gf; rw [hf]
theorem jj_gf_long {h : jj_Hp} {a ci k : Nat} (hf : jj_fty ci k = .long) : jj_gf h a ci k = .long (h.2.1 a k) := by unfold jj_gf; rw [hf]
theorem jj_upd_at {f : Nat → Int32} {k : Nat} {x : Int32} : upd f k x k = x := if_pos rfl
theorem jj_updL_at {f : Nat → Int64} {k : Nat} {x : Int64} : vp_updL f k x k = x := if_pos rfl
theorem jj_inb_in {i : Int32} {n : Nat} (h : jj_inb i n = true) : vp_in i n := by
  unfold jj_inb at h
  simp only [Bool.and_eq_true, decide_eq_true_eq] at h
  intro q
  rcases q with q | q
  · have h1 := Int32.le_iff_toInt_le.mp h.1
    have h2 := Int32.lt_iff_toInt_lt.mp q
    omega
  · omega
/-- the locals -/
def jj_L (ad : Nat → Nat) (ls : Array Slot) (nL : Nat) (lc : List Value) : Prop := lv_has ls nL [] ∧ lc.length = nL ∧ ∀ (i : Nat) (v : Value), lc[i]? = some v → v ≠ .null → ls[i]? = some (.val (jj_tr ad v))
def jj_al (ad : Nat → Nat) (lc : List Value) : List (Nat × Value) := (List.range lc.length).filterMap fun (i : Nat) => match (lc[i]? : Option Value) with
  | some Value.null => none
  | some v => some (i, jj_tr ad v)
  | none => none
theorem jj_al_in {ad : Nat → Nat} {lc : List Value} {i : Nat} {v : Value} (h : lc[i]? = some v) (hv : v ≠ .null) : (i, jj_tr ad v) ∈ jj_al ad lc := by
  refine List.mem_filterMap.mpr ⟨i, List.mem_range.mpr (List.getElem?_eq_some_iff.mp h).1, ?_⟩
  rw [h]
  cases v <;> first | rfl | exact absurd rfl hv
theorem jj_al_of {ad : Nat → Nat} {lc : List Value} {q : Nat × Value} (h : q ∈ jj_al ad lc) : ∃ v, lc[q.1]? = some v ∧ v ≠ .null ∧ q.2 = jj_tr ad v := by
  obtain ⟨i, hi, he⟩ := List.mem_filterMap.mp h
  have hi' := List.mem_range.mp hi
  rw [List.getElem?_eq_getElem hi'] at he
  split at he
  · cases he
  · next v hn hv =>
    cases he
    refine ⟨v, ?_, ?_, rfl⟩
    · exact (List.getElem?_eq_getElem hi').trans hv
    · intro q; exact hn (by rw [← q])
  · cases he
theorem jj_L.has {ad : Nat → Nat} {ls : Array Slot} {nL : Nat} {lc : List Value} (h : jj_L ad ls nL lc) : lv_has ls nL (jj_al ad lc) := by
  refine ⟨h.1.1, h.1.2.1, fun q hq => ?_⟩
  obtain ⟨v, h1, h2, h3⟩ := jj_al_of hq
  rw [h3]
  exact h.2.2 q.1 v h1 h2
theorem jj_tr_cat (ad : Nat → Nat) (v : Value) : (jj_tr ad v).category = v.category := by cases v <;> rfl
theorem jj_set_len : ∀ (lc : List Value) (i : Nat) (v : Value), (jj_set lc i v).length = lc.length
  | [], i, v => by cases i <;> rfl
  | a :: l, 0, v => rfl
  | a :: l, 1, v => by simp [jj_set, jj_set_len l 0 v]
  | a :: l, i + 2, v => by simp [jj_set, jj_set_len l (i + 1) v]
theorem jj_set_get : ∀ (lc : List Value) (i : Nat) (v : Value) (k : Nat) (w : Value), (jj_set lc i v)[k]? = some w → (k = i ∧ w = v) ∨ (k ≠ i ∧ k + 1 = i ∧ ∃ u, lc[k]? = some u ∧ w = jj_clr u) ∨ (k ≠ i ∧ k + 1 ≠ i ∧ lc[k]? = some w)
  | [], i, v, k, w, h => by
    have e : jj_set [] i v = [] := by cases i <;> rfl
    rw [e] at h; simp at h
  | a :: l, 0, v, 0, w, h => by
    have h : some v = some w := h
    exact Or.inl ⟨rfl, (Option.some.inj h).symm⟩
  | a :: l, 0, v, k + 1, w, h => Or.inr (Or.inr ⟨by omega, by omega, h⟩)
  | a :: l, 1, v, 0, w, h => by
    have h : some (jj_clr a) = some w := h
    exact Or.inr (Or.inl ⟨by omega, rfl, a, rfl, (Option.some.inj h).symm⟩)
  | a :: l, 1, v, k + 1, w, h => by
    have h : (jj_set l 0 v)[k]? = some w := h
    rcases jj_set_get l 0 v k w h with ⟨h1, h2⟩ | ⟨h0, h1, u, h2, h3⟩ | ⟨h0, h1, h2⟩
    · exact Or.inl ⟨by omega, h2⟩
    · omega
    · exact Or.inr (Or.inr ⟨by omega, by omega, h2⟩)
  | a :: l, i + 2, v, 0, w, h => Or.inr (Or.inr ⟨by omega, by omega, h⟩)
  | a :: l, i + 2, v, k + 1, w, h => by
    have h : (jj_set l (i + 1) v)[k]? = some w := h
    rcases jj_set_get l (i + 1) v k w h with ⟨h1, h2⟩ | ⟨h0, h1, u, h2, h3⟩ | ⟨h0, h1, h2⟩
    · exact Or.inl ⟨by omega, h2⟩
    · exact Or.inr (Or.inl ⟨by omega, by omega, u, h2, h3⟩)
    · exact Or.inr (Or.inr ⟨by omega, by omega, h2⟩)
theorem jj_clr_ne {u : Value} (h : jj_clr u ≠ .null) : jj_clr u = u ∧ u.category = 1 := by
  cases u <;> first | exact ⟨rfl, rfl⟩ | exact absurd rfl h
theorem jj_L.set1 {ad : Nat → Nat} {ls ls' : Array Slot} {nL i : Nat} {lc : List Value} {v : Value} (h : jj_L ad ls nL lc) (h' : lv_has ls' nL ((i, jj_tr ad v) :: (jj_al ad lc).filter (fun q => !(q.1 == i) && !(q.1 + 1 == i && q.2.category == 2)))) : jj_L ad ls' nL (jj_set lc i v) := by
  refine ⟨⟨h'.1, h'.2.1, fun q hq => by cases hq⟩, by rw [jj_set_len]; exact h.2.1, fun k w hk hw => ?_⟩
  rcases jj_set_get lc i v k w hk with ⟨h1, h2⟩ | ⟨h0, h1, u, h2, h3⟩ | ⟨h0, h1, h2⟩
  · rw [h1, h2]
    exact h'.2.2 (i, jj_tr ad v) List.mem_cons_self
  · rw [h3] at hw
    obtain ⟨e1, e2⟩ := jj_clr_ne hw
    rw [h3, e1]
    rw [e1] at hw
    refine h'.2.2 (k, jj_tr ad u) (List.mem_cons_of_mem _ (List.mem_filter.mpr ⟨jj_al_in h2 hw, ?_⟩))
    show (!(k == i) && !(k + 1 == i && (jj_tr ad u).category == 2)) = true
    rw [jj_tr_cat, e2]
    simp [h0]
  · refine h'.2.2 (k, jj_tr ad w) (List.mem_cons_of_mem _ (List.mem_filter.mpr ⟨jj_al_in h2 hw, ?_⟩))
    show (!(k == i) && !(k + 1 == i && (jj_tr ad w).category == 2)) = true
    simp [h0, h1]
theorem jj_L.set2 {ad : Nat → Nat} {ls ls' : Array Slot} {nL i : Nat} {lc : List Value} {v : Value} (h : jj_L ad ls nL lc) (h' : lv_has ls' nL ((i, jj_tr ad v) :: (jj_al ad lc).filter (fun q => !(q.1 == i) && (!(q.1 == i + 1) && !(q.1 + 1 == i && q.2.category == 2))))) : jj_L ad ls' nL (jj_set2 lc i v) := by
  refine ⟨⟨h'.1, h'.2.1, fun q hq => by cases hq⟩, by unfold jj_set2; rw [List.length_set, jj_set_len]; exact h.2.1, fun k w hk hw => ?_⟩
  unfold jj_set2 at hk
  rw [List.getElem?_set] at hk
  by_cases hki : i + 1 = k
  · rw [if_pos hki] at hk
    split at hk
    · cases hk; exact absurd rfl hw
    · cases hk
  rw [if_neg hki] at hk
  rcases jj_set_get lc i v k w hk with ⟨h1, h2⟩ | ⟨h0, h1, u, h2, h3⟩ | ⟨h0, h1, h2⟩
  · rw [h1, h2]
    exact h'.2.2 (i, jj_tr ad v) List.mem_cons_self
  · rw [h3] at hw
    obtain ⟨e1, e2⟩ := jj_clr_ne hw
    rw [h3, e1]
    rw [e1] at hw
    refine h'.2.2 (k, jj_tr ad u) (List.mem_cons_of_mem _ (List.mem_filter.mpr ⟨jj_al_in h2 hw, ?_⟩))
    show (!(k == i) && (!(k == i + 1) && !(k + 1 == i && (jj_tr ad u).category == 2))) = true
    rw [jj_tr_cat, e2]
    have hk2 : k ≠ i + 1 := fun q => hki q.symm
    simp [h0, hk2]
  · refine h'.2.2 (k, jj_tr ad w) (List.mem_cons_of_mem _ (List.mem_filter.mpr ⟨jj_al_in h2 hw, ?_⟩))
    show (!(k == i) && (!(k == i + 1) && !(k + 1 == i && (jj_tr ad w).category == 2))) = true
    have hk2 : k ≠ i + 1 := fun q => hki q.symm
    simp [h0, h1, hk2]
theorem jj_gi_at {ad : Nat → Nat} {ls : Array Slot} {nL i : Nat} {lc : List Value} {x : Int32} (h : jj_L ad ls nL lc) (hg : jj_gi lc i = some x) : lc[i]? = some (.int x) ∧ ls[i]? = some (.val (.int x)) := by
  unfold jj_gi at hg
  split at hg
  · next y hy =>
    cases hg
    exact ⟨hy, h.2.2 i (.int x) hy (by simp)⟩
  · cases hg
theorem jj_gl_at {ad : Nat → Nat} {ls : Array Slot} {nL i : Nat} {lc : List Value} {x : Int64} (h : jj_L ad ls nL lc) (hg : jj_gl lc i = some x) : lc[i]? = some (.long x) ∧ ls[i]? = some (.val (.long x)) := by
  unfold jj_gl at hg
  split at hg
  · next y hy =>
    cases hg
    exact ⟨hy, h.2.2 i (.long x) hy (by simp)⟩
  · cases hg
theorem jj_gr_at {ad : Nat → Nat} {ls : Array Slot} {nL i : Nat} {lc : List Value} {x : Nat} (h : jj_L ad ls nL lc) (hg : jj_gr lc i = some x) : lc[i]? = some (.ref x) ∧ ls[i]? = some (.val (.ref (ad x))) := by
  unfold jj_gr at hg
  split at hg
  · next y hy =>
    cases hg
    exact ⟨hy, h.2.2 i (.ref x) hy (by simp)⟩
  · cases hg
theorem jj_jmp_at {pc t : Nat} {off : Int} (h : jj_jmp pc off = some t) : (pc : Int) + off = (t : Int) := by
  unfold jj_jmp at h
  split at h
  · cases h; omega
  · cases h
/-- which cells a frame may write -/
def jj_A (ad : Nat → Nat) (sz : Nat) : Nat → Prop := fun q => (∃ k, k < jj_nc ∧ q = ad k) ∨ sz ≤ q
def jj_Ad (ad : Nat → Nat) (b : Nat) : Prop := (∀ i j, i < jj_nc → j < jj_nc → ad i = ad j → i = j) ∧ (∀ i, i < jj_nc → ad i ≠ b) ∧ ad jj_sc = b
/-- what holds of a frame of method M: the machine, the code, the words, the classes of cells, the script -/
def jj_Cx (D : va_G) (cA : Nat → ClassId) (b : Nat) (sc : Nat × (Nat → Int32)) (p : Program) (R : Room) (s : State) (m : MethodId) (args : Array Value) (meth : Method) (c : Code) (M : jj_M) (d : Nat) : Prop :=
  p.tables.exec = Jvm.exec ∧ c.code = M.1.2 ∧ meth.sig.returnType = M.2.2.1 ∧ meth.locks = false ∧ c.maxLocals = M.2.1 ∧ s.vm.findClass (jj_R M.2.2.2.1) = some m.cls ∧ (∀ w ∈ jj_wl, w.before args s = true) ∧ va_K D vwCl [] s ∧ (∀ a t n, jj_sh[a]? = some (.inr (t, n)) → va_K D vwCl [(cA a, t)] s) ∧ va_X b sc.1 sc.2 s s.heap ∧ b < s.heap.size ∧ d ≤ R.frames ∧ 60 * d ≤ R.locals
theorem jj_Dd {ad : Nat → Nat} {b sz : Nat} (hA : jj_Ad ad b) (cA : Nat → ClassId) (h : jj_Hp) : va_D (jj_A ad sz) (jj_w ad cA h) := by
  have key : ∀ (i : Nat) (p : Nat × va_E), (jj_w ad cA h)[i]? = some p → i < jj_nc ∧ p.1 = ad i := by
    intro i p hp
    have hi : i < jj_nc := by
      have := (List.getElem?_eq_some_iff.mp hp).1
      rwa [jj_w_len] at this
    rw [jj_w_get hi] at hp
    cases hp
    exact ⟨hi, rfl⟩
  refine ⟨fun i j p q hp hq he => ?_, fun k q hk => ?_⟩
  · obtain ⟨h1, h2⟩ := key i p hp
    obtain ⟨h3, h4⟩ := key j q hq
    exact hA.1 i j h1 h3 (by rw [← h2, ← h4]; exact he)
  · obtain ⟨h1, h2⟩ := key k q hk
    exact Or.inl ⟨k, h1, h2⟩
theorem jj_nb {ad : Nat → Nat} {b sz : Nat} (hA : jj_Ad ad b) (hb : b < sz) : ¬ jj_A ad sz b := by
  rintro (⟨k, hk, he⟩ | h)
  · exact hA.2.1 k hk he.symm
  · omega
theorem jj_look {α : Type} {l : List (Nat × α)} {i : Nat} {x : α} (h : l.lookup i = some x) : (i, x) ∈ l := by
  induction l with
  | nil => cases h
  | cons q t ih =>
    obtain ⟨k, v⟩ := q
    rw [List.lookup_cons] at h
    split at h
    · next e =>
      cases h
      have : i = k := by simpa using e
      subst this
      exact List.mem_cons_self
    · exact List.mem_cons_of_mem _ (ih h)
theorem jj_b01_or {x : Int32} (h : jj_b01 x = true) : x = 0 ∨ x = 1 := by
  unfold jj_b01 at h
  simpa using h
theorem jj_bmap {α β γ : Type} {o : Option α} {f : α → Option β} {z : β} (h : o.bind f = some z) : ∃ q, o = some q ∧ f q = some z := by
  cases o with
  | none => cases h
  | some q => exact ⟨q, rfl, h⟩
theorem jj_omap {α β : Type} {o : Option α} {f : α → β} {z : β} (h : o.map f = some z) : ∃ q, o = some q ∧ f q = z := by
  cases o with
  | none => cases h
  | some q => exact ⟨q, rfl, Option.some.inj h⟩
def jj_StS (M : jj_M) (pc : Nat) (lc st : List Value) (h : jj_Hp) (P : jj_P) : Prop :=
  ∀ {l : Launch} {D : va_G} {ad : Nat → Nat} {cA : Nat → ClassId} {b : Nat} {sc : Nat × (Nat → Int32)} {p : Program} {e : Env} {R : Room} {s : State} {m : MethodId} {args : Array Value} {below : List Frame} {meth : Method} {c : Code} {d : Nat} {H : Heap} {locs : List Loc} {cells slots : Nat} {Q : State → Prop} {ls : Array Slot},
    jj_Ad ad b → jj_Cx D cA b sc p R s m args meth c M d → h.2.2 = sc → va_P D vwCl (jj_w ad cA h) H → va_S (jj_A ad s.heap.size) s.heap H locs → jj_L ad ls M.2.1 lc →
    (∀ (H1 : Heap) (locs1 : List Loc) (ls1 : Array Slot), va_P D vwCl (jj_w ad cA P.2.2.2) H1 → va_S (jj_A ad s.heap.size) s.heap H1 locs1 → jj_L ad ls1 M.2.1 P.2.1 → W p l e R s m args below meth c H1 locs1 cells slots Q (F0 m P.1 ls1 (P.2.2.1.map (jj_tr ad)))) →
    W p l e R s m args below meth c H locs cells slots Q (F0 m pc ls (st.map (jj_tr ad)))
set_option maxHeartbeats 4000000 in
set_option maxRecDepth 100000 in
theorem jj_step {M : jj_M} {ins : Instr} {len pc : Nat} {lc st : List Value} {h : jj_Hp} {P : jj_P} (hd : decode M.1.2 pc = .ok (ins, len)) (hlen : jj_len ins len = len) (hs : jj_st M.2.2.2.1 ins pc lc st h = some P) : P.2.2.2.2.2 = h.2.2 ∧ jj_StS M pc lc st h P := by
  cases ins with
  | iconst q =>
    obtain rfl : 1 = len := hlen
    cases hs
    refine ⟨rfl, ?_⟩
    intro l D ad cA b sc p e R s m args below meth c d H locs cells slots Q ls hAd Cx hsc hP hS hl k
    obtain ⟨hx, hb, hr, hlk, hml, hown, hts, hK, hKa, hX, hbl, hfr, hlo⟩ := Cx
    exact lv_iconst hx hb hd rfl (k _ _ _ hP hS hl)
  | bipush q =>
    obtain rfl : 2 = len := hlen
    cases hs
    refine ⟨rfl, ?_⟩
    intro l D ad cA b sc p e R s m args below meth c d H locs cells slots Q ls hAd Cx hsc hP hS hl k
    obtain ⟨hx, hb, hr, hlk, hml, hown, hts, hK, hKa, hX, hbl, hfr, hlo⟩ := Cx
    exact lv_bipush hx hb hd rfl (k _ _ _ hP hS hl)
  | sipush q =>
    obtain rfl : 3 = len := hlen
    cases hs
    refine ⟨rfl, ?_⟩
    intro l D ad cA b sc p e R s m args below meth c d H locs cells slots Q ls hAd Cx hsc hP hS hl k
    obtain ⟨hx, hb, hr, hlk, hml, hown, hts, hK, hKa, hX, hbl, hfr, hlo⟩ := Cx
    exact lv_sipush hx hb hd rfl (k _ _ _ hP hS hl)
  | lconst q =>
    obtain rfl : 1 = len := hlen
    cases hs
    refine ⟨rfl, ?_⟩
    intro l D ad cA b sc p e R s m args below meth c d H locs cells slots Q ls hAd Cx hsc hP hS hl k
    obtain ⟨hx, hb, hr, hlk, hml, hown, hts, hK, hKa, hX, hbl, hfr, hlo⟩ := Cx
    exact lv_lconst hx hb hd rfl (k _ _ _ hP hS hl)
  | ldc q =>
    obtain rfl : 2 = len := hlen
    obtain ⟨x, hg, rfl⟩ := jj_omap hs
    refine ⟨rfl, ?_⟩
    intro l D ad cA b sc p e R s m args below meth c d H locs cells slots Q ls hAd Cx hsc hP hS hl k
    obtain ⟨hx, hb, hr, hlk, hml, hown, hts, hK, hKa, hX, hbl, hfr, hlo⟩ := Cx
    exact lv_ldc hx hb hown (hts _ (jj_ld_ok _ (q, x) (jj_look hg))) hd (k _ _ _ hP hS hl)
  | ldc_w q =>
    obtain rfl : 3 = len := hlen
    obtain ⟨x, hg, rfl⟩ := jj_omap hs
    refine ⟨rfl, ?_⟩
    intro l D ad cA b sc p e R s m args below meth c d H locs cells slots Q ls hAd Cx hsc hP hS hl k
    obtain ⟨hx, hb, hr, hlk, hml, hown, hts, hK, hKa, hX, hbl, hfr, hlo⟩ := Cx
    exact lv_ldcw hx hb hown (hts _ (jj_ld_ok _ (q, x) (jj_look hg))) hd (k _ _ _ hP hS hl)
  | ldc2_w q =>
    obtain rfl : 3 = len := hlen
    obtain ⟨x, hg, rfl⟩ := jj_omap hs
    refine ⟨rfl, ?_⟩
    intro l D ad cA b sc p e R s m args below meth c d H locs cells slots Q ls hAd Cx hsc hP hS hl k
    obtain ⟨hx, hb, hr, hlk, hml, hown, hts, hK, hKa, hX, hbl, hfr, hlo⟩ := Cx
    exact lv_ldc2 hx hb hown (hts _ (jj_ll_ok _ (q, x) (jj_look hg))) hd (k _ _ _ hP hS hl)
  | iload q =>
    obtain rfl : 2 = len := hlen
    obtain ⟨x, hg, rfl⟩ := jj_omap hs
    refine ⟨rfl, ?_⟩
    intro l D ad cA b sc p e R s m args below meth c d H locs cells slots Q ls hAd Cx hsc hP hS hl k
    obtain ⟨hx, hb, hr, hlk, hml, hown, hts, hK, hKa, hX, hbl, hfr, hlo⟩ := Cx
    exact lv_iload hx hb hd (jj_gi_at hl hg).2 (k _ _ _ hP hS hl)
  | iload_n q =>
    obtain rfl : 1 = len := hlen
    obtain ⟨x, hg, rfl⟩ := jj_omap hs
    refine ⟨rfl, ?_⟩
    intro l D ad cA b sc p e R s m args below meth c d H locs cells slots Q ls hAd Cx hsc hP hS hl k
    obtain ⟨hx, hb, hr, hlk, hml, hown, hts, hK, hKa, hX, hbl, hfr, hlo⟩ := Cx
    exact lv_iload_n hx hb hd rfl (jj_gi_at hl hg).2 (k _ _ _ hP hS hl)
  | lload q =>
    obtain rfl : 2 = len := hlen
    obtain ⟨x, hg, rfl⟩ := jj_omap hs
    refine ⟨rfl, ?_⟩
    intro l D ad cA b sc p e R s m args below meth c d H locs cells slots Q ls hAd Cx hsc hP hS hl k
    obtain ⟨hx, hb, hr, hlk, hml, hown, hts, hK, hKa, hX, hbl, hfr, hlo⟩ := Cx
    exact lv_lload hx hb hd (jj_gl_at hl hg).2 (k _ _ _ hP hS hl)
  | lload_n q =>
    obtain rfl : 1 = len := hlen
    obtain ⟨x, hg, rfl⟩ := jj_omap hs
    refine ⟨rfl, ?_⟩
    intro l D ad cA b sc p e R s m args below meth c d H locs cells slots Q ls hAd Cx hsc hP hS hl k
    obtain ⟨hx, hb, hr, hlk, hml, hown, hts, hK, hKa, hX, hbl, hfr, hlo⟩ := Cx
    exact lv_lload_n hx hb hd rfl (jj_gl_at hl hg).2 (k _ _ _ hP hS hl)
  | aload q =>
    obtain rfl : 2 = len := hlen
    obtain ⟨x, hg, rfl⟩ := jj_omap hs
    refine ⟨rfl, ?_⟩
    intro l D ad cA b sc p e R s m args below meth c d H locs cells slots Q ls hAd Cx hsc hP hS hl k
    obtain ⟨hx, hb, hr, hlk, hml, hown, hts, hK, hKa, hX, hbl, hfr, hlo⟩ := Cx
    exact lv_aload hx hb hd (jj_gr_at hl hg).2 (k _ _ _ hP hS hl)
  | aload_n q =>
    obtain rfl : 1 = len := hlen
    obtain ⟨x, hg, rfl⟩ := jj_omap hs
    refine ⟨rfl, ?_⟩
    intro l D ad cA b sc p e R s m args below meth c d H locs cells slots Q ls hAd Cx hsc hP hS hl k
    obtain ⟨hx, hb, hr, hlk, hml, hown, hts, hK, hKa, hX, hbl, hfr, hlo⟩ := Cx
    exact lv_aload_n hx hb hd rfl (jj_gr_at hl hg).2 (k _ _ _ hP hS hl)
  | istore q =>
    obtain rfl : 2 = len := hlen
    obtain ⟨x, r, rfl, h1⟩ := jj_i_inv hs
    by_cases hi : (q : Nat) < lc.length
    rotate_left
    · rw [if_neg hi] at h1; cases h1
    rw [if_pos hi] at h1
    cases h1
    refine ⟨rfl, ?_⟩
    intro l D ad cA b sc p e R s m args below meth c d H locs cells slots Q ls hAd Cx hsc hP hS hl k
    obtain ⟨hx, hb, hr, hlk, hml, hown, hts, hK, hKa, hX, hbl, hfr, hlo⟩ := Cx
    exact lv_istore hx hb hd (jj_L.has hl) (by have := hl.2.1; omega) rfl (fun ls1 h1 => k _ _ _ hP hS (jj_L.set1 (v := .int x) hl h1))
  | istore_n q =>
    obtain rfl : 1 = len := hlen
    obtain ⟨x, r, rfl, h1⟩ := jj_i_inv hs
    by_cases hi : (q : Nat) < lc.length
    rotate_left
    · rw [if_neg hi] at h1; cases h1
    rw [if_pos hi] at h1
    cases h1
    refine ⟨rfl, ?_⟩
    intro l D ad cA b sc p e R s m args below meth c d H locs cells slots Q ls hAd Cx hsc hP hS hl k
    obtain ⟨hx, hb, hr, hlk, hml, hown, hts, hK, hKa, hX, hbl, hfr, hlo⟩ := Cx
    exact lv_istore_n hx hb hd rfl (jj_L.has hl) (by have := hl.2.1; omega) rfl (fun ls1 h1 => k _ _ _ hP hS (jj_L.set1 (v := .int x) hl h1))
  | astore q =>
    obtain rfl : 2 = len := hlen
    obtain ⟨x, r, rfl, h1⟩ := jj_r_inv hs
    by_cases hi : (q : Nat) < lc.length
    rotate_left
    · rw [if_neg hi] at h1; cases h1
    rw [if_pos hi] at h1
    cases h1
    refine ⟨rfl, ?_⟩
    intro l D ad cA b sc p e R s m args below meth c d H locs cells slots Q ls hAd Cx hsc hP hS hl k
    obtain ⟨hx, hb, hr, hlk, hml, hown, hts, hK, hKa, hX, hbl, hfr, hlo⟩ := Cx
    exact lv_astore hx hb hd (jj_L.has hl) (by have := hl.2.1; omega) rfl (fun ls1 h1 => k _ _ _ hP hS (jj_L.set1 (v := .ref x) hl h1))
  | astore_n q =>
    obtain rfl : 1 = len := hlen
    obtain ⟨x, r, rfl, h1⟩ := jj_r_inv hs
    by_cases hi : (q : Nat) < lc.length
    rotate_left
    · rw [if_neg hi] at h1; cases h1
    rw [if_pos hi] at h1
    cases h1
    refine ⟨rfl, ?_⟩
    intro l D ad cA b sc p e R s m args below meth c d H locs cells slots Q ls hAd Cx hsc hP hS hl k
    obtain ⟨hx, hb, hr, hlk, hml, hown, hts, hK, hKa, hX, hbl, hfr, hlo⟩ := Cx
    exact lv_astore_n hx hb hd rfl (jj_L.has hl) (by have := hl.2.1; omega) rfl (fun ls1 h1 => k _ _ _ hP hS (jj_L.set1 (v := .ref x) hl h1))
  | lstore q =>
    obtain rfl : 2 = len := hlen
    obtain ⟨x, r, rfl, h1⟩ := jj_l_inv hs
    by_cases hi : (q : Nat) + 1 < lc.length
    rotate_left
    · rw [if_neg hi] at h1; cases h1
    rw [if_pos hi] at h1
    cases h1
    refine ⟨rfl, ?_⟩
    intro l D ad cA b sc p e R s m args below meth c d H locs cells slots Q ls hAd Cx hsc hP hS hl k
    obtain ⟨hx, hb, hr, hlk, hml, hown, hts, hK, hKa, hX, hbl, hfr, hlo⟩ := Cx
    exact lv_lstore hx hb hd (jj_L.has hl) (by have := hl.2.1; omega) rfl (fun ls1 h1 => k _ _ _ hP hS (jj_L.set2 (v := .long x) hl h1))
  | lstore_n q =>
    obtain rfl : 1 = len := hlen
    obtain ⟨x, r, rfl, h1⟩ := jj_l_inv hs
    by_cases hi : (q : Nat) + 1 < lc.length
    rotate_left
    · rw [if_neg hi] at h1; cases h1
    rw [if_pos hi] at h1
    cases h1
    refine ⟨rfl, ?_⟩
    intro l D ad cA b sc p e R s m args below meth c d H locs cells slots Q ls hAd Cx hsc hP hS hl k
    obtain ⟨hx, hb, hr, hlk, hml, hown, hts, hK, hKa, hX, hbl, hfr, hlo⟩ := Cx
    exact lv_lstore_n hx hb hd rfl (jj_L.has hl) (by have := hl.2.1; omega) rfl (fun ls1 h1 => k _ _ _ hP hS (jj_L.set2 (v := .long x) hl h1))
  | iinc q z =>
    obtain rfl : 3 = len := hlen
    obtain ⟨x, hg, rfl⟩ := jj_omap hs
    refine ⟨rfl, ?_⟩
    intro l D ad cA b sc p e R s m args below meth c d H locs cells slots Q ls hAd Cx hsc hP hS hl k
    obtain ⟨hx, hb, hr, hlk, hml, hown, hts, hK, hKa, hX, hbl, hfr, hlo⟩ := Cx
    obtain ⟨g1, g2⟩ := jj_gi_at hl hg
    obtain ⟨u, hu⟩ := List.getElem?_of_mem (jj_al_in (ad := ad) g1 (by simp))
    exact lv_iinc hx hb hd (jj_L.has hl) hu rfl (by have := hl.2.1; have := (List.getElem?_eq_some_iff.mp g1).1; omega) rfl (fun ls1 h1 => k _ _ _ hP hS (jj_L.set1 (v := .int (x + Int32.ofInt z)) hl h1))
  | dup =>
    obtain rfl : 1 = len := hlen
    have hs : jj_du st (fun v r => some (pc + 1, lc, v :: v :: r, h)) = some P := hs
    obtain ⟨v, r, rfl, hv, h1⟩ := jj_du_inv hs
    cases h1
    refine ⟨rfl, ?_⟩
    intro l D ad cA b sc p e R s m args below meth c d H locs cells slots Q ls hAd Cx hsc hP hS hl k
    obtain ⟨hx, hb, hr, hlk, hml, hown, hts, hK, hKa, hX, hbl, hfr, hlo⟩ := Cx
    exact lv_dup hx hb hd (by rw [jj_tr_cat]; exact hv) (k _ _ _ hP hS hl)
  | dup2 =>
    obtain rfl : 1 = len := hlen
    obtain ⟨a, i, r, rfl, h1⟩ := jj_ri_inv hs
    cases h1
    refine ⟨rfl, ?_⟩
    intro l D ad cA b sc p e R s m args below meth c d H locs cells slots Q ls hAd Cx hsc hP hS hl k
    obtain ⟨hx, hb, hr, hlk, hml, hown, hts, hK, hKa, hX, hbl, hfr, hlo⟩ := Cx
    exact lv_dup2_11 hx hb hd rfl rfl (k _ _ _ hP hS hl)
  | iadd =>
    obtain rfl : 1 = len := hlen
    obtain ⟨x, y, r, rfl, h1⟩ := jj_ii_inv hs
    cases h1
    refine ⟨rfl, ?_⟩
    intro l D ad cA b sc p e R s m args below meth c d H locs cells slots Q ls hAd Cx hsc hP hS hl k
    obtain ⟨hx, hb, hr, hlk, hml, hown, hts, hK, hKa, hX, hbl, hfr, hlo⟩ := Cx
    exact lv_iadd hx hb hd (k _ _ _ hP hS hl)
  | isub =>
    obtain rfl : 1 = len := hlen
    obtain ⟨x, y, r, rfl, h1⟩ := jj_ii_inv hs
    cases h1
    refine ⟨rfl, ?_⟩
    intro l D ad cA b sc p e R s m args below meth c d H locs cells slots Q ls hAd Cx hsc hP hS hl k
    obtain ⟨hx, hb, hr, hlk, hml, hown, hts, hK, hKa, hX, hbl, hfr, hlo⟩ := Cx
    exact lv_isub hx hb hd (k _ _ _ hP hS hl)
  | imul =>
    obtain rfl : 1 = len := hlen
    obtain ⟨x, y, r, rfl, h1⟩ := jj_ii_inv hs
    cases h1
    refine ⟨rfl, ?_⟩
    intro l D ad cA b sc p e R s m args below meth c d H locs cells slots Q ls hAd Cx hsc hP hS hl k
    obtain ⟨hx, hb, hr, hlk, hml, hown, hts, hK, hKa, hX, hbl, hfr, hlo⟩ := Cx
    exact lv_imul hx hb hd (k _ _ _ hP hS hl)
  | iand =>
    obtain rfl : 1 = len := hlen
    obtain ⟨x, y, r, rfl, h1⟩ := jj_ii_inv hs
    cases h1
    refine ⟨rfl, ?_⟩
    intro l D ad cA b sc p e R s m args below meth c d H locs cells slots Q ls hAd Cx hsc hP hS hl k
    obtain ⟨hx, hb, hr, hlk, hml, hown, hts, hK, hKa, hX, hbl, hfr, hlo⟩ := Cx
    exact lv_iand hx hb hd (k _ _ _ hP hS hl)
  | ior =>
    obtain rfl : 1 = len := hlen
    obtain ⟨x, y, r, rfl, h1⟩ := jj_ii_inv hs
    cases h1
    refine ⟨rfl, ?_⟩
    intro l D ad cA b sc p e R s m args below meth c d H locs cells slots Q ls hAd Cx hsc hP hS hl k
    obtain ⟨hx, hb, hr, hlk, hml, hown, hts, hK, hKa, hX, hbl, hfr, hlo⟩ := Cx
    exact lv_ior hx hb hd (k _ _ _ hP hS hl)
  | ixor =>
    obtain rfl : 1 = len := hlen
    obtain ⟨x, y, r, rfl, h1⟩ := jj_ii_inv hs
    cases h1
    refine ⟨rfl, ?_⟩
    intro l D ad cA b sc p e R s m args below meth c d H locs cells slots Q ls hAd Cx hsc hP hS hl k
    obtain ⟨hx, hb, hr, hlk, hml, hown, hts, hK, hKa, hX, hbl, hfr, hlo⟩ := Cx
    exact lv_ixor hx hb hd (k _ _ _ hP hS hl)
  | ishl =>
    obtain rfl : 1 = len := hlen
    obtain ⟨x, y, r, rfl, h1⟩ := jj_ii_inv hs
    cases h1
    refine ⟨rfl, ?_⟩
    intro l D ad cA b sc p e R s m args below meth c d H locs cells slots Q ls hAd Cx hsc hP hS hl k
    obtain ⟨hx, hb, hr, hlk, hml, hown, hts, hK, hKa, hX, hbl, hfr, hlo⟩ := Cx
    exact lv_ishl hx hb hd (k _ _ _ hP hS hl)
  | ishr =>
    obtain rfl : 1 = len := hlen
    obtain ⟨x, y, r, rfl, h1⟩ := jj_ii_inv hs
    cases h1
    refine ⟨rfl, ?_⟩
    intro l D ad cA b sc p e R s m args below meth c d H locs cells slots Q ls hAd Cx hsc hP hS hl k
    obtain ⟨hx, hb, hr, hlk, hml, hown, hts, hK, hKa, hX, hbl, hfr, hlo⟩ := Cx
    exact lv_ishr hx hb hd (k _ _ _ hP hS hl)
  | iushr =>
    obtain rfl : 1 = len := hlen
    obtain ⟨x, y, r, rfl, h1⟩ := jj_ii_inv hs
    cases h1
    refine ⟨rfl, ?_⟩
    intro l D ad cA b sc p e R s m args below meth c d H locs cells slots Q ls hAd Cx hsc hP hS hl k
    obtain ⟨hx, hb, hr, hlk, hml, hown, hts, hK, hKa, hX, hbl, hfr, hlo⟩ := Cx
    exact lv_iushr hx hb hd rfl (k _ _ _ hP hS hl)
  | ladd =>
    obtain rfl : 1 = len := hlen
    obtain ⟨x, y, r, rfl, h1⟩ := jj_ll_inv hs
    cases h1
    refine ⟨rfl, ?_⟩
    intro l D ad cA b sc p e R s m args below meth c d H locs cells slots Q ls hAd Cx hsc hP hS hl k
    obtain ⟨hx, hb, hr, hlk, hml, hown, hts, hK, hKa, hX, hbl, hfr, hlo⟩ := Cx
    exact lv_ladd hx hb hd (k _ _ _ hP hS hl)
  | lsub =>
    obtain rfl : 1 = len := hlen
    obtain ⟨x, y, r, rfl, h1⟩ := jj_ll_inv hs
    cases h1
    refine ⟨rfl, ?_⟩
    intro l D ad cA b sc p e R s m args below meth c d H locs cells slots Q ls hAd Cx hsc hP hS hl k
    obtain ⟨hx, hb, hr, hlk, hml, hown, hts, hK, hKa, hX, hbl, hfr, hlo⟩ := Cx
    exact lv_lsub hx hb hd (k _ _ _ hP hS hl)
  | lmul =>
    obtain rfl : 1 = len := hlen
    obtain ⟨x, y, r, rfl, h1⟩ := jj_ll_inv hs
    cases h1
    refine ⟨rfl, ?_⟩
    intro l D ad cA b sc p e R s m args below meth c d H locs cells slots Q ls hAd Cx hsc hP hS hl k
    obtain ⟨hx, hb, hr, hlk, hml, hown, hts, hK, hKa, hX, hbl, hfr, hlo⟩ := Cx
    exact lv_lmul hx hb hd (k _ _ _ hP hS hl)
  | idiv =>
    obtain rfl : 1 = len := hlen
    obtain ⟨x, y, r, rfl, h1⟩ := jj_ii_inv hs
    by_cases hi : y = 0
    · rw [if_pos hi] at h1; cases h1
    rw [if_neg hi] at h1
    cases h1
    refine ⟨rfl, ?_⟩
    intro l D ad cA b sc p e R s m args below meth c d H locs cells slots Q ls hAd Cx hsc hP hS hl k
    obtain ⟨hx, hb, hr, hlk, hml, hown, hts, hK, hKa, hX, hbl, hfr, hlo⟩ := Cx
    exact lv_idiv hx hb hd hi (k _ _ _ hP hS hl)
  | irem =>
    obtain rfl : 1 = len := hlen
    obtain ⟨x, y, r, rfl, h1⟩ := jj_ii_inv hs
    by_cases hi : y = 0
    · rw [if_pos hi] at h1; cases h1
    rw [if_neg hi] at h1
    cases h1
    refine ⟨rfl, ?_⟩
    intro l D ad cA b sc p e R s m args below meth c d H locs cells slots Q ls hAd Cx hsc hP hS hl k
    obtain ⟨hx, hb, hr, hlk, hml, hown, hts, hK, hKa, hX, hbl, hfr, hlo⟩ := Cx
    exact lv_irem hx hb hd hi (k _ _ _ hP hS hl)
  | ldiv =>
    obtain rfl : 1 = len := hlen
    obtain ⟨x, y, r, rfl, h1⟩ := jj_ll_inv hs
    by_cases hi : y = 0
    · rw [if_pos hi] at h1; cases h1
    rw [if_neg hi] at h1
    cases h1
    refine ⟨rfl, ?_⟩
    intro l D ad cA b sc p e R s m args below meth c d H locs cells slots Q ls hAd Cx hsc hP hS hl k
    obtain ⟨hx, hb, hr, hlk, hml, hown, hts, hK, hKa, hX, hbl, hfr, hlo⟩ := Cx
    exact lv_ldiv hx hb hd hi (k _ _ _ hP hS hl)
  | lrem =>
    obtain rfl : 1 = len := hlen
    obtain ⟨x, y, r, rfl, h1⟩ := jj_ll_inv hs
    by_cases hi : y = 0
    · rw [if_pos hi] at h1; cases h1
    rw [if_neg hi] at h1
    cases h1
    refine ⟨rfl, ?_⟩
    intro l D ad cA b sc p e R s m args below meth c d H locs cells slots Q ls hAd Cx hsc hP hS hl k
    obtain ⟨hx, hb, hr, hlk, hml, hown, hts, hK, hKa, hX, hbl, hfr, hlo⟩ := Cx
    exact lv_lrem hx hb hd hi (k _ _ _ hP hS hl)
  | ineg =>
    obtain rfl : 1 = len := hlen
    obtain ⟨x, r, rfl, h1⟩ := jj_i_inv hs
    cases h1
    refine ⟨rfl, ?_⟩
    intro l D ad cA b sc p e R s m args below meth c d H locs cells slots Q ls hAd Cx hsc hP hS hl k
    obtain ⟨hx, hb, hr, hlk, hml, hown, hts, hK, hKa, hX, hbl, hfr, hlo⟩ := Cx
    exact lv_ineg hx hb hd (k _ _ _ hP hS hl)
  | lneg =>
    obtain rfl : 1 = len := hlen
    obtain ⟨x, r, rfl, h1⟩ := jj_l_inv hs
    cases h1
    refine ⟨rfl, ?_⟩
    intro l D ad cA b sc p e R s m args below meth c d H locs cells slots Q ls hAd Cx hsc hP hS hl k
    obtain ⟨hx, hb, hr, hlk, hml, hown, hts, hK, hKa, hX, hbl, hfr, hlo⟩ := Cx
    exact lv_lneg hx hb hd (k _ _ _ hP hS hl)
  | lcmp =>
    obtain rfl : 1 = len := hlen
    obtain ⟨x, y, r, rfl, h1⟩ := jj_ll_inv hs
    cases h1
    refine ⟨rfl, ?_⟩
    intro l D ad cA b sc p e R s m args below meth c d H locs cells slots Q ls hAd Cx hsc hP hS hl k
    obtain ⟨hx, hb, hr, hlk, hml, hown, hts, hK, hKa, hX, hbl, hfr, hlo⟩ := Cx
    exact W.lcmp hx hb hd (k _ _ _ hP hS hl)
  | i2l =>
    obtain rfl : 1 = len := hlen
    obtain ⟨x, r, rfl, h1⟩ := jj_i_inv hs
    cases h1
    refine ⟨rfl, ?_⟩
    intro l D ad cA b sc p e R s m args below meth c d H locs cells slots Q ls hAd Cx hsc hP hS hl k
    obtain ⟨hx, hb, hr, hlk, hml, hown, hts, hK, hKa, hX, hbl, hfr, hlo⟩ := Cx
    exact lv_i2l hx hb hd rfl (k _ _ _ hP hS hl)
  | l2i =>
    obtain rfl : 1 = len := hlen
    obtain ⟨x, r, rfl, h1⟩ := jj_l_inv hs
    cases h1
    refine ⟨rfl, ?_⟩
    intro l D ad cA b sc p e R s m args below meth c d H locs cells slots Q ls hAd Cx hsc hP hS hl k
    obtain ⟨hx, hb, hr, hlk, hml, hown, hts, hK, hKa, hX, hbl, hfr, hlo⟩ := Cx
    exact lv_l2i hx hb hd rfl (k _ _ _ hP hS hl)
  | goto off =>
    obtain rfl : 3 = len := hlen
    obtain ⟨t, hg, rfl⟩ := jj_omap hs
    refine ⟨rfl, ?_⟩
    intro l D ad cA b sc p e R s m args below meth c d H locs cells slots Q ls hAd Cx hsc hP hS hl k
    obtain ⟨hx, hb, hr, hlk, hml, hown, hts, hK, hKa, hX, hbl, hfr, hlo⟩ := Cx
    exact lv_goto hx hb hd (jj_jmp_at hg) (k _ _ _ hP hS hl)
  | ifCond cd off =>
    obtain rfl : 3 = len := hlen
    obtain ⟨x, r, rfl, h1⟩ := jj_i_inv hs
    obtain ⟨t, hg, rfl⟩ := jj_omap h1
    refine ⟨rfl, ?_⟩
    intro l D ad cA b sc p e R s m args below meth c d H locs cells slots Q ls hAd Cx hsc hP hS hl k
    obtain ⟨hx, hb, hr, hlk, hml, hown, hts, hK, hKa, hX, hbl, hfr, hlo⟩ := Cx
    cases cd
    · refine lv_if_eq hx hb hd (jj_jmp_at hg) (fun z => ?_) (fun z => ?_)
      · have e1 : (if jj_c1 .eq x = true then t else pc + 3) = t := if_pos (by simp [jj_c1, z])
        have k1 := k _ _ _ hP hS hl
        simp only [e1] at k1
        exact k1
      · have e1 : (if jj_c1 .eq x = true then t else pc + 3) = pc + 3 := if_neg (by simp [jj_c1, z])
        have k1 := k _ _ _ hP hS hl
        simp only [e1] at k1
        exact k1
    · refine lv_if_ne hx hb hd (jj_jmp_at hg) (fun z => ?_) (fun z => ?_)
      · have e1 : (if jj_c1 .ne x = true then t else pc + 3) = t := if_pos (by simp [jj_c1, z])
        have k1 := k _ _ _ hP hS hl
        simp only [e1] at k1
        exact k1
      · have e1 : (if jj_c1 .ne x = true then t else pc + 3) = pc + 3 := if_neg (by simp [jj_c1, z])
        have k1 := k _ _ _ hP hS hl
        simp only [e1] at k1
        exact k1
    · refine lv_if_lt hx hb hd (jj_jmp_at hg) (fun z => ?_) (fun z => ?_)
      · have e1 : (if jj_c1 .lt x = true then t else pc + 3) = t := if_pos (by simp [jj_c1, z])
        have k1 := k _ _ _ hP hS hl
        simp only [e1] at k1
        exact k1
      · have e1 : (if jj_c1 .lt x = true then t else pc + 3) = pc + 3 := if_neg (by simp [jj_c1, z])
        have k1 := k _ _ _ hP hS hl
        simp only [e1] at k1
        exact k1
    · refine lv_if_ge hx hb hd (jj_jmp_at hg) (fun z => ?_) (fun z => ?_)
      · have e1 : (if jj_c1 .ge x = true then t else pc + 3) = t := if_pos (by simp [jj_c1, z])
        have k1 := k _ _ _ hP hS hl
        simp only [e1] at k1
        exact k1
      · have e1 : (if jj_c1 .ge x = true then t else pc + 3) = pc + 3 := if_neg (by simp [jj_c1, z])
        have k1 := k _ _ _ hP hS hl
        simp only [e1] at k1
        exact k1
    · refine lv_if_gt hx hb hd (jj_jmp_at hg) (fun z => ?_) (fun z => ?_)
      · have e1 : (if jj_c1 .gt x = true then t else pc + 3) = t := if_pos (by simp [jj_c1, z])
        have k1 := k _ _ _ hP hS hl
        simp only [e1] at k1
        exact k1
      · have e1 : (if jj_c1 .gt x = true then t else pc + 3) = pc + 3 := if_neg (by simp [jj_c1, z])
        have k1 := k _ _ _ hP hS hl
        simp only [e1] at k1
        exact k1
    · refine lv_if_le hx hb hd (jj_jmp_at hg) (fun z => ?_) (fun z => ?_)
      · have e1 : (if jj_c1 .le x = true then t else pc + 3) = t := if_pos (by simp [jj_c1, z])
        have k1 := k _ _ _ hP hS hl
        simp only [e1] at k1
        exact k1
      · have e1 : (if jj_c1 .le x = true then t else pc + 3) = pc + 3 := if_neg (by simp [jj_c1, z])
        have k1 := k _ _ _ hP hS hl
        simp only [e1] at k1
        exact k1
  | if_icmp cd off =>
    obtain rfl : 3 = len := hlen
    obtain ⟨x, y, r, rfl, h1⟩ := jj_ii_inv hs
    obtain ⟨t, hg, rfl⟩ := jj_omap h1
    refine ⟨rfl, ?_⟩
    intro l D ad cA b sc p e R s m args below meth c d H locs cells slots Q ls hAd Cx hsc hP hS hl k
    obtain ⟨hx, hb, hr, hlk, hml, hown, hts, hK, hKa, hX, hbl, hfr, hlo⟩ := Cx
    cases cd
    · refine lv_icmp_eq hx hb hd (jj_jmp_at hg) (fun z => ?_) (fun z => ?_)
      · have e1 : (if jj_c2 .eq x y = true then t else pc + 3) = t := if_pos (by simp [jj_c2, z])
        have k1 := k _ _ _ hP hS hl
        simp only [e1] at k1
        exact k1
      · have e1 : (if jj_c2 .eq x y = true then t else pc + 3) = pc + 3 := if_neg (by simp [jj_c2, z])
        have k1 := k _ _ _ hP hS hl
        simp only [e1] at k1
        exact k1
    · refine lv_icmp_ne hx hb hd (jj_jmp_at hg) (fun z => ?_) (fun z => ?_)
      · have e1 : (if jj_c2 .ne x y = true then t else pc + 3) = t := if_pos (by simp [jj_c2, z])
        have k1 := k _ _ _ hP hS hl
        simp only [e1] at k1
        exact k1
      · have e1 : (if jj_c2 .ne x y = true then t else pc + 3) = pc + 3 := if_neg (by simp [jj_c2, z])
        have k1 := k _ _ _ hP hS hl
        simp only [e1] at k1
        exact k1
    · refine lv_icmp_lt hx hb hd (jj_jmp_at hg) (fun z => ?_) (fun z => ?_)
      · have e1 : (if jj_c2 .lt x y = true then t else pc + 3) = t := if_pos (by simp [jj_c2, z])
        have k1 := k _ _ _ hP hS hl
        simp only [e1] at k1
        exact k1
      · have e1 : (if jj_c2 .lt x y = true then t else pc + 3) = pc + 3 := if_neg (by simp [jj_c2, z])
        have k1 := k _ _ _ hP hS hl
        simp only [e1] at k1
        exact k1
    · refine lv_icmp_ge hx hb hd (jj_jmp_at hg) (fun z => ?_) (fun z => ?_)
      · have e1 : (if jj_c2 .ge x y = true then t else pc + 3) = t := if_pos (by simp [jj_c2, z])
        have k1 := k _ _ _ hP hS hl
        simp only [e1] at k1
        exact k1
      · have e1 : (if jj_c2 .ge x y = true then t else pc + 3) = pc + 3 := if_neg (by simp [jj_c2, z])
        have k1 := k _ _ _ hP hS hl
        simp only [e1] at k1
        exact k1
    · refine lv_icmp_gt hx hb hd (jj_jmp_at hg) (fun z => ?_) (fun z => ?_)
      · have e1 : (if jj_c2 .gt x y = true then t else pc + 3) = t := if_pos (by simp [jj_c2, z])
        have k1 := k _ _ _ hP hS hl
        simp only [e1] at k1
        exact k1
      · have e1 : (if jj_c2 .gt x y = true then t else pc + 3) = pc + 3 := if_neg (by simp [jj_c2, z])
        have k1 := k _ _ _ hP hS hl
        simp only [e1] at k1
        exact k1
    · refine lv_icmp_le hx hb hd (jj_jmp_at hg) (fun z => ?_) (fun z => ?_)
      · have e1 : (if jj_c2 .le x y = true then t else pc + 3) = t := if_pos (by simp [jj_c2, z])
        have k1 := k _ _ _ hP hS hl
        simp only [e1] at k1
        exact k1
      · have e1 : (if jj_c2 .le x y = true then t else pc + 3) = pc + 3 := if_neg (by simp [jj_c2, z])
        have k1 := k _ _ _ hP hS hl
        simp only [e1] at k1
        exact k1
  | tableswitch dflt lo hi offs =>
    obtain ⟨x, r, rfl, h1⟩ := jj_i_inv hs
    obtain ⟨off, ho, h2⟩ := jj_bmap (γ := Nat) h1
    obtain ⟨t, hg, rfl⟩ := jj_omap h2
    refine ⟨rfl, ?_⟩
    intro l D ad cA b sc p e R s m args below meth c d H locs cells slots Q ls hAd Cx hsc hP hS hl k
    obtain ⟨hx, hb, hr, hlk, hml, hown, hts, hK, hKa, hX, hbl, hfr, hlo⟩ := Cx
    unfold jj_tsw at ho
    by_cases hz : x.toInt < lo ∨ hi < x.toInt
    · rw [if_pos hz] at ho
      cases ho
      exact lv_tableOut hx hb hd hz (jj_jmp_at hg) (k _ _ _ hP hS hl)
    · rw [if_neg hz] at ho
      exact lv_tableIn hx hb hd (fun z => hz (Or.inl z)) (fun z => hz (Or.inr z)) ho (jj_jmp_at hg) (k _ _ _ hP hS hl)
  | getfield q =>
    obtain rfl : 3 = len := hlen
    obtain ⟨a, r, rfl, h1⟩ := jj_r_inv hs
    obtain ⟨⟨ci, kf⟩, hf, h2⟩ := jj_bmap (γ := Nat) h1
    by_cases hi : jj_sh[a]? = some (.inl ci) ∧ kf < jj_nf ci
    rotate_left
    · rw [if_neg hi] at h2; cases h2
    rw [if_pos hi] at h2
    cases h2
    refine ⟨rfl, ?_⟩
    intro l D ad cA b sc p e R s m args below meth c d H locs cells slots Q ls hAd Cx hsc hP hS hl k
    obtain ⟨hx, hb, hr, hlk, hml, hown, hts, hK, hKa, hX, hbl, hfr, hlo⟩ := Cx
    obtain ⟨ha, hc1, hc2, hc3, hc4, hc5⟩ := jj_clsL hi.1
    exact va_get hx hb hts hc2 hown hK hP a (by rw [jj_w_get ha, jj_ce_ob hi.1]) hc1 kf hi.2 (hts _ (jj_fl_ok _ (q, ci, kf) (jj_look hf))) (fun _ z => z) (jj_fs_get hi.2) hd (k _ _ _ hP hS hl)
  | putfield q =>
    obtain rfl : 3 = len := hlen
    obtain ⟨⟨ci, kf⟩, hf, h2⟩ := jj_bmap (γ := Nat) hs
    dsimp only at h2
    split at h2
    next hty =>
      obtain ⟨a, x, r, rfl, h3⟩ := jj_ri_inv h2
      by_cases hi : jj_sh[a]? = some (.inl ci) ∧ kf < jj_nf ci
      rotate_left
      · rw [if_neg hi] at h3; cases h3
      rw [if_pos hi] at h3
      cases h3
      refine ⟨rfl, ?_⟩
      intro l D ad cA b sc p e R s m args below meth c d H locs cells slots Q ls hAd Cx hsc hP hS hl k
      obtain ⟨hx, hb, hr, hlk, hml, hown, hts, hK, hKa, hX, hbl, hfr, hlo⟩ := Cx
      obtain ⟨ha, hc1, hc2, hc3, hc4, hc5⟩ := jj_clsL hi.1
      have hk := hi.2
      refine va_put (ty := .int) (v := .int x) hx hb hts hc2 (jj_fty ci) hc3 hc4 hown hK hP (jj_Dd hAd cA h) hS a (by rw [jj_w_get ha, jj_ce_ob hi.1]) hc1 kf hk (hts _ (jj_fl_ok _ (q, ci, kf) (jj_look hf))) (fun _ z => z) (hc5 kf hk (Or.inl hty)) (by rw [hc3 kf hk, hty]) rfl rfl (by simpa using hk) hd (fun H1 locs1 hP1 _ hS1 => k _ _ _ ?_ hS1 hl)
      rw [jj_w_set (h' := jj_iu h a kf x) (by rw [jj_ce_ob hi.1, jj_fs_set hk (h' := jj_iu h a kf x) (by rw [jj_gf_int hty, jj_iu_at, jj_upd_at]; rfl) (fun j hj => jj_gf_iu hj)]) jj_iu_o] at hP1
      exact hP1
    next hty =>
      obtain ⟨a, x, r, rfl, h3⟩ := jj_ri_inv h2
      by_cases hi : jj_sh[a]? = some (.inl ci) ∧ kf < jj_nf ci ∧ jj_b01 x = true
      rotate_left
      · rw [if_neg hi] at h3; cases h3
      rw [if_pos hi] at h3
      cases h3
      refine ⟨rfl, ?_⟩
      intro l D ad cA b sc p e R s m args below meth c d H locs cells slots Q ls hAd Cx hsc hP hS hl k
      obtain ⟨hx, hb, hr, hlk, hml, hown, hts, hK, hKa, hX, hbl, hfr, hlo⟩ := Cx
      obtain ⟨ha, hc1, hc2, hc3, hc4, hc5⟩ := jj_clsL hi.1
      have hk := hi.2.1
      refine va_put (ty := .boolean) (v := .int x) hx hb hts hc2 (jj_fty ci) hc3 hc4 hown hK hP (jj_Dd hAd cA h) hS a (by rw [jj_w_get ha, jj_ce_ob hi.1]) hc1 kf hk (hts _ (jj_fl_ok _ (q, ci, kf) (jj_look hf))) (fun _ z => z) (hc5 kf hk (Or.inr (Or.inl hty))) (by rw [hc3 kf hk, hty]) (by rcases jj_b01_or hi.2.2 with rfl | rfl <;> rfl) (by rcases jj_b01_or hi.2.2 with rfl | rfl <;> rfl) (by simpa using hk) hd (fun H1 locs1 hP1 _ hS1 => k _ _ _ ?_ hS1 hl)
      rw [jj_w_set (h' := jj_iu h a kf x) (by rw [jj_ce_ob hi.1, jj_fs_set hk (h' := jj_iu h a kf x) (by rw [jj_gf_bool hty, jj_iu_at, jj_upd_at]; rfl) (fun j hj => jj_gf_iu hj)]) jj_iu_o] at hP1
      exact hP1
    next hty =>
      obtain ⟨a, x, r, rfl, h3⟩ := jj_rl_inv h2
      by_cases hi : jj_sh[a]? = some (.inl ci) ∧ kf < jj_nf ci
      rotate_left
      · rw [if_neg hi] at h3; cases h3
      rw [if_pos hi] at h3
      cases h3
      refine ⟨rfl, ?_⟩
      intro l D ad cA b sc p e R s m args below meth c d H locs cells slots Q ls hAd Cx hsc hP hS hl k
      obtain ⟨hx, hb, hr, hlk, hml, hown, hts, hK, hKa, hX, hbl, hfr, hlo⟩ := Cx
      obtain ⟨ha, hc1, hc2, hc3, hc4, hc5⟩ := jj_clsL hi.1
      have hk := hi.2
      refine va_put (ty := .long) (v := .long x) hx hb hts hc2 (jj_fty ci) hc3 hc4 hown hK hP (jj_Dd hAd cA h) hS a (by rw [jj_w_get ha, jj_ce_ob hi.1]) hc1 kf hk (hts _ (jj_fl_ok _ (q, ci, kf) (jj_look hf))) (fun _ z => z) (hc5 kf hk (Or.inr (Or.inr hty))) (by rw [hc3 kf hk, hty]) rfl rfl (by simpa using hk) hd (fun H1 locs1 hP1 _ hS1 => k _ _ _ ?_ hS1 hl)
      rw [jj_w_set (h' := jj_lu h a kf x) (by rw [jj_ce_ob hi.1, jj_fs_set hk (h' := jj_lu h a kf x) (by rw [jj_gf_long hty, jj_lu_at, jj_updL_at]; rfl) (fun j hj => jj_gf_lu hj)]) jj_lu_o] at hP1
      exact hP1
    next => cases h2
  | iaload =>
    obtain rfl : 1 = len := hlen
    obtain ⟨a, i, r, rfl, h1⟩ := jj_ri_inv hs
    by_cases hz : a = jj_sc
    · rw [if_pos hz] at h1
      by_cases hi : jj_inb i h.2.2.1 = true
      rotate_left
      · rw [if_neg hi] at h1; cases h1
      rw [if_pos hi] at h1
      cases h1
      refine ⟨rfl, ?_⟩
      intro l D ad cA b sc p e R s m args below meth c d H locs cells slots Q ls hAd Cx hsc hP hS hl k
      obtain ⟨hx, hb, hr, hlk, hml, hown, hts, hK, hKa, hX, hbl, hfr, hlo⟩ := Cx
      subst hz
      subst hsc
      have e1 : jj_tr ad (.ref jj_sc) = .ref b := by show Value.ref (ad jj_sc) = _; rw [hAd.2.2]
      show W p l e R s m args below meth c H locs cells slots Q (F0 m pc ls (.int i :: jj_tr ad (.ref jj_sc) :: r.map (jj_tr ad)))
      rw [e1]
      exact va_sld hx hb hX hbl (jj_nb hAd hbl) hS (jj_inb_in hi) hd (k _ _ _ hP hS hl)
    rw [if_neg hz] at h1
    split at h1
    · next n hn =>
      by_cases hi : jj_inb i n = true
      rotate_left
      · rw [if_neg hi] at h1; cases h1
      rw [if_pos hi] at h1
      cases h1
      refine ⟨rfl, ?_⟩
      intro l D ad cA b sc p e R s m args below meth c d H locs cells slots Q ls hAd Cx hsc hP hS hl k
      obtain ⟨hx, hb, hr, hlk, hml, hown, hts, hK, hKa, hX, hbl, hfr, hlo⟩ := Cx
      exact va_iald hx hb (hKa _ _ _ hn) hP a 0 (by rw [jj_w_get (jj_sh_lt hn), jj_ce_i hn]) rfl (jj_inb_in hi) hd (k _ _ _ hP hS hl)
    · cases h1
  | baload =>
    obtain rfl : 1 = len := hlen
    obtain ⟨a, i, r, rfl, h1⟩ := jj_ri_inv hs
    split at h1
    · next n hn =>
      by_cases hi : jj_inb i n = true
      rotate_left
      · rw [if_neg hi] at h1; cases h1
      rw [if_pos hi] at h1
      cases h1
      refine ⟨rfl, ?_⟩
      intro l D ad cA b sc p e R s m args below meth c d H locs cells slots Q ls hAd Cx hsc hP hS hl k
      obtain ⟨hx, hb, hr, hlk, hml, hown, hts, hK, hKa, hX, hbl, hfr, hlo⟩ := Cx
      exact va_zald hx hb (hKa _ _ _ hn) hP a 0 (by rw [jj_w_get (jj_sh_lt hn), jj_ce_z hn]) rfl (jj_inb_in hi) hd (k _ _ _ hP hS hl)
    · cases h1
  | laload =>
    obtain rfl : 1 = len := hlen
    obtain ⟨a, i, r, rfl, h1⟩ := jj_ri_inv hs
    split at h1
    · next n hn =>
      by_cases hi : jj_inb i n = true
      rotate_left
      · rw [if_neg hi] at h1; cases h1
      rw [if_pos hi] at h1
      cases h1
      refine ⟨rfl, ?_⟩
      intro l D ad cA b sc p e R s m args below meth c d H locs cells slots Q ls hAd Cx hsc hP hS hl k
      obtain ⟨hx, hb, hr, hlk, hml, hown, hts, hK, hKa, hX, hbl, hfr, hlo⟩ := Cx
      exact va_lald hx hb (hKa _ _ _ hn) hP a 0 (by rw [jj_w_get (jj_sh_lt hn), jj_ce_l hn]) rfl (jj_inb_in hi) hd (k _ _ _ hP hS hl)
    · cases h1
  | iastore =>
    obtain rfl : 1 = len := hlen
    obtain ⟨a, i, x, r, rfl, h1⟩ := jj_rii_inv hs
    split at h1
    · next n hn =>
      by_cases hi : jj_inb i n = true
      rotate_left
      · rw [if_neg hi] at h1; cases h1
      rw [if_pos hi] at h1
      cases h1
      refine ⟨rfl, ?_⟩
      intro l D ad cA b sc p e R s m args below meth c d H locs cells slots Q ls hAd Cx hsc hP hS hl k
      obtain ⟨hx, hb, hr, hlk, hml, hown, hts, hK, hKa, hX, hbl, hfr, hlo⟩ := Cx
      have hin := hi
      refine va_iast hx hb (hKa _ _ _ hn) hP (jj_Dd hAd cA h) hS a 0 (by rw [jj_w_get (jj_sh_lt hn), jj_ce_i hn]) rfl (jj_inb_in hin) hd (fun H1 locs1 hP1 _ hS1 => k _ _ _ ?_ hS1 hl)
      rw [jj_w_set (h' := jj_iu h a i.toNatClampNeg x) (by rw [jj_ce_i hn, jj_iu_at]) jj_iu_o] at hP1
      exact hP1
    · cases h1
  | bastore =>
    obtain rfl : 1 = len := hlen
    obtain ⟨a, i, x, r, rfl, h1⟩ := jj_rii_inv hs
    split at h1
    · next n hn =>
      by_cases hi : jj_inb i n = true ∧ jj_b01 x = true
      rotate_left
      · rw [if_neg hi] at h1; cases h1
      rw [if_pos hi] at h1
      cases h1
      refine ⟨rfl, ?_⟩
      intro l D ad cA b sc p e R s m args below meth c d H locs cells slots Q ls hAd Cx hsc hP hS hl k
      obtain ⟨hx, hb, hr, hlk, hml, hown, hts, hK, hKa, hX, hbl, hfr, hlo⟩ := Cx
      have hin := hi.1
      refine va_zast hx hb (hKa _ _ _ hn) hP (jj_Dd hAd cA h) hS a 0 (by rw [jj_w_get (jj_sh_lt hn), jj_ce_z hn]) rfl (jj_inb_in hin) hd (fun H1 locs1 hP1 _ hS1 => k _ _ _ ?_ hS1 hl)
      rw [show vp_nar .boolean x = x by rcases jj_b01_or hi.2 with rfl | rfl <;> decide] at hP1
      rw [jj_w_set (h' := jj_iu h a i.toNatClampNeg x) (by rw [jj_ce_z hn, jj_iu_at]) jj_iu_o] at hP1
      exact hP1
    · cases h1
  | lastore =>
    obtain rfl : 1 = len := hlen
    obtain ⟨a, i, x, r, rfl, h1⟩ := jj_ril_inv hs
    split at h1
    · next n hn =>
      by_cases hi : jj_inb i n = true
      rotate_left
      · rw [if_neg hi] at h1; cases h1
      rw [if_pos hi] at h1
      cases h1
      refine ⟨rfl, ?_⟩
      intro l D ad cA b sc p e R s m args below meth c d H locs cells slots Q ls hAd Cx hsc hP hS hl k
      obtain ⟨hx, hb, hr, hlk, hml, hown, hts, hK, hKa, hX, hbl, hfr, hlo⟩ := Cx
      have hin := hi
      refine va_last hx hb (hKa _ _ _ hn) hP (jj_Dd hAd cA h) hS a 0 (by rw [jj_w_get (jj_sh_lt hn), jj_ce_l hn]) rfl (jj_inb_in hin) hd (fun H1 locs1 hP1 _ hS1 => k _ _ _ ?_ hS1 hl)
      rw [jj_w_set (h' := jj_lu h a i.toNatClampNeg x) (by rw [jj_ce_l hn, jj_lu_at]) jj_lu_o] at hP1
      exact hP1
    · cases h1
  | arraylength =>
    obtain rfl : 1 = len := hlen
    obtain ⟨a, r, rfl, h1⟩ := jj_r_inv hs
    by_cases hz : a = jj_sc
    · rw [if_pos hz] at h1
      cases h1
      refine ⟨rfl, ?_⟩
      intro l D ad cA b sc p e R s m args below meth c d H locs cells slots Q ls hAd Cx hsc hP hS hl k
      obtain ⟨hx, hb, hr, hlk, hml, hown, hts, hK, hKa, hX, hbl, hfr, hlo⟩ := Cx
      subst hz
      subst hsc
      have e1 : jj_tr ad (.ref jj_sc) = .ref b := by show Value.ref (ad jj_sc) = _; rw [hAd.2.2]
      show W p l e R s m args below meth c H locs cells slots Q (F0 m pc ls (jj_tr ad (.ref jj_sc) :: r.map (jj_tr ad)))
      rw [e1]
      exact va_slen hx hb hX hbl (jj_nb hAd hbl) hS hd (k _ _ _ hP hS hl)
    rw [if_neg hz] at h1
    split at h1
    · next t n hn =>
      cases h1
      refine ⟨rfl, ?_⟩
      intro l D ad cA b sc p e R s m args below meth c d H locs cells slots Q ls hAd Cx hsc hP hS hl k
      obtain ⟨hx, hb, hr, hlk, hml, hown, hts, hK, hKa, hX, hbl, hfr, hlo⟩ := Cx
      obtain ⟨y, hy⟩ : ∃ y : vp_A, jj_ce ad cA h a = .inl (cA a, y) ∧ y.1 = n := by
        unfold jj_ce
        rw [hn]
        cases t <;> exact ⟨_, rfl, rfl⟩
      exact va_alen hx hb (hKa _ _ _ hn) hP a 0 (by rw [jj_w_get (jj_sh_lt hn), hy.1]) rfl (by rw [hy.2]) hd (k _ _ _ hP hS hl)
    · cases h1
  | _ => cases hs
end
section
/-! runs: the machine does what our function says, calls and all -/
def jj_ws (M : jj_M) : List Cond := Cond.code M.1.1 M.1.2 M.2.1 M.2.2.1 :: jj_wl
def jj_rm (d : Nat) : Room := { frames := d, cells := 0, slots := 0, locals := 60 * d }
def jj_Pc (D : va_G) (ad : Nat → Nat) (cA : Nat → ClassId) (b : Nat) (sc : Nat × (Nat → Int32)) (vs : List Value) (h : jj_Hp) (sz : Nat) : Array Value → State → Prop :=
  va_Pc (vs.map (jj_tr ad)) (fun U => U.heap.size = sz ∧ va_P D vwCl (jj_w ad cA h) U.heap ∧ va_K D vwCl [] U ∧ (∀ a t n, jj_sh[a]? = some (.inr (t, n)) → va_K D vwCl [(cA a, t)] U) ∧ va_X b sc.1 sc.2 U U.heap ∧ b < U.heap.size)
def jj_Q (D : va_G) (ad : Nat → Nat) (cA : Nat → ClassId) (rv : Option Value) (h' : jj_Hp) (A : Nat → Prop) : Array Value → State → Outcome → State → Prop := fun _ st oc t =>
  oc = .returned (rv.map (jj_tr ad)) ∧ va_P D vwCl (jj_w ad cA h') t.heap ∧ va_F A st t
/-- where a method ends -/
def jj_end (M : jj_M) (pc : Nat) (rv : Option Value) : Prop := ∃ ins st, decode M.1.2 pc = .ok (ins, 1) ∧ jj_fin M.2.2.1 ins st = some rv
def jj_Snd (l : Launch) (D : va_G) (ad : Nat → Nat) (cA : Nat → ClassId) (b : Nat) (sc : Nat × (Nat → Int32)) (d : Nat) (M : jj_M) (pc : Nat) (lc st : List Value) (h : jj_Hp) (rv : Option Value) (h' : jj_Hp) : Prop :=
  ∀ (p : Program) (e : Env) (R : Room) (s : State) (m : MethodId) (args : Array Value) (below : List Frame) (meth : Method) (c : Code), jj_Cx D cA b sc p R s m args meth c M d →
  ∀ (H : Heap) (locs : List Loc) (cells slots : Nat) (Q : State → Prop) (ls : Array Slot), va_P D vwCl (jj_w ad cA h) H → va_S (jj_A ad s.heap.size) s.heap H locs → jj_L ad ls M.2.1 lc → cells ≤ R.cells → slots ≤ R.slots →
    (∀ (H1 : Heap) (locs1 : List Loc) (pc1 : Nat) (ls1 : Array Slot), va_P D vwCl (jj_w ad cA h') H1 → va_S (jj_A ad s.heap.size) s.heap H1 locs1 → jj_end M pc1 rv → W p l e R s m args below meth c H1 locs1 cells slots Q (F0 m pc1 ls1 (rv.toList.map (jj_tr ad)))) →
    W p l e R s m args below meth c H locs cells slots Q (F0 m pc ls (st.map (jj_tr ad)))
/-- behind a call -/
theorem jj_call {p : Program} {l : Launch} {e : Env} {R : Room} {s : State} {m : MethodId} {args : Array Value} {below : List Frame} {meth : Method} {c : Code} {H : Heap} {locs : List Loc} {cells slots : Nat} {Q : State → Prop} {pc : Nat} {ls : Array Slot} {rest st0 : List Value} {a : Array Value} {A0 A1 : Nat → Prop} {H0 : Heap} {free : Addr → Prop} {D : va_G} {ad : Nat → Nat} {cA : Nat → ClassId} {rv : Option Value} {h' : jj_Hp}
    (hr : va_Run p l e R s m args below meth c H locs cells slots 0 0 (F0 m pc ls st0) rest (jj_Q D ad cA rv h' A1 a) free) (hS : va_S A0 H0 H locs) (hA : ∀ q, q < H.size → A1 q → A0 q) (hf : ∀ q, free q → A0 q)
    (kk : ∀ (H1 : Heap) (locs1 : List Loc), va_P D vwCl (jj_w ad cA h') H1 → va_S A0 H0 H1 locs1 → W p l e R s m args below meth c H1 locs1 cells slots Q (F0 m (pc + 3) ls ((rv.map (jj_tr ad)).toList ++ rest))) : W p l e R s m args below meth c H locs cells slots Q (F0 m pc ls st0) := by
  intro T hT X
  obtain ⟨v, st₀, t, T', L, h0, X', hL, e1, e2, ⟨hv, hp, hz, hk⟩, st⟩ := hr T hT X
  cases hv
  rw [h0] at hz hk
  obtain ⟨t2, a1, b1⟩ := kk T'.heap (locs ++ L) (by rw [e1]; exact hp)
    ⟨Nat.le_trans hS.1 (by rw [e1]; exact hz), fun q h1 h2 => by rw [e1, hk q (Nat.lt_of_lt_of_le h1 hS.1) (fun z => h2 (hA q (Nat.lt_of_lt_of_le h1 hS.1) z))]; exact hS.2.1 q h1 h2, fun q hq => by
      rcases List.mem_append.mp hq with h | h
      · exact hS.2.2 q h
      · exact hf _ (hL q h)⟩ T' rfl X'
  exact ⟨t2, st t2 a1, b1⟩
theorem jj_ofW {l : Launch} {y : MethodName} {ws ws' : List Cond} {rm : Room} {Pc : Array Value → State → Prop} {Qc : Array Value → State → Outcome → State → Prop} {mc ms : Nat} {free : Addr → Prop} {cc : ByteArray} {maxL : Nat} {ret : Option FieldType}
    (hy : plainFor y = true) (hw : ws = Cond.code y cc maxL ret :: ws')
    (body : ∀ p e s m args below meth c s₁, BodyLoose p l y (headSpec ws rm) cc maxL ret e s m args below meth c s₁ → c.maxLocals = maxL → Pc args s →
      W p l e (headSpec ws rm).room s m args below meth c s.heap [] 0 0 (MQ below Qc args s mc ms free) (entryFrame m args maxL)) : Met l y ws rm Pc Qc mc ms free := by
  refine MetFree.of_bodySF (code := cc) (maxLocals := maxL) (ret := ret) hy ?_ ?_
  · intro args s m h hn
    obtain ⟨meth, c, h1, h2, h3, h4, h5, h6, -, -⟩ := Cond.code_spec hn (atoms_spec (ws := ws) h _ (by rw [hw]; exact List.mem_cons_self))
    exact ⟨meth, c, h1, h2, h3, h4, h5, h6⟩
  · intro p e s m args below meth c s₁ B hml hP _
    have hh0 : s₁.heap = s.heap := by rw [B.state]; rfl
    obtain ⟨t, a1, o, b1, b2, b3⟩ := body p e s m args below meth c s₁ B hml hP s₁ hh0 (Stand.of_body B)
    exact ⟨t, o, a1, b1, b2, ⟨b3.1, b3.2⟩⟩
theorem jj_ent_len : ∀ (vs : List Value) (n : Nat), jj_wd vs ≤ n → n < 1000 → (jj_ent vs n).length = n ∧ (∀ ad, (lg_sl (vs.map (jj_tr ad))).length = jj_wd vs)
  | [], n, _, _ => ⟨by simp [jj_ent], fun ad => rfl⟩
  | .long x :: l, n, h, hn => by
    have h : jj_wd l + 2 ≤ n := h
    obtain ⟨h1, h2⟩ := jj_ent_len l (n - 2) (by omega) (by omega)
    refine ⟨by show (jj_ent l (n - 2)).length + 1 + 1 = n; omega, fun ad => ?_⟩
    show (lg_sl (Value.long x :: l.map (jj_tr ad))).length = jj_wd l + 2
    have e : lg_sl (Value.long x :: l.map (jj_tr ad)) = .val (.long x) :: .second :: lg_sl (l.map (jj_tr ad)) := rfl
    rw [e, ← h2 ad]; rfl
  | .int x :: l, n, h, hn => by
    have h : jj_wd l + 1 ≤ n := h
    obtain ⟨h1, h2⟩ := jj_ent_len l (n - 1) (by omega) (by omega)
    refine ⟨by show (jj_ent l (n - 1)).length + 1 = n; omega, fun ad => ?_⟩
    show (lg_sl (Value.int x :: l.map (jj_tr ad))).length = jj_wd l + 1
    have e : lg_sl (Value.int x :: l.map (jj_tr ad)) = .val (.int x) :: lg_sl (l.map (jj_tr ad)) := rfl
    rw [e, ← h2 ad]; rfl
  | .ref x :: l, n, h, hn => by
    have h : jj_wd l + 1 ≤ n := h
    obtain ⟨h1, h2⟩ := jj_ent_len l (n - 1) (by omega) (by omega)
    refine ⟨by show (jj_ent l (n - 1)).length + 1 = n; omega, fun ad => ?_⟩
    show (lg_sl (Value.ref (ad x) :: l.map (jj_tr ad))).length = jj_wd l + 1
    have e : lg_sl (Value.ref (ad x) :: l.map (jj_tr ad)) = .val (.ref (ad x)) :: lg_sl (l.map (jj_tr ad)) := rfl
    rw [e, ← h2 ad]; rfl
  | .float _ :: l, n, h, hn => by have h : 1000 ≤ n := h; omega
  | .double _ :: l, n, h, hn => by have h : 1000 ≤ n := h; omega
  | .null :: l, n, h, hn => by have h : 1000 ≤ n := h; omega
  | .retAddr _ :: l, n, h, hn => by have h : 1000 ≤ n := h; omega
theorem jj_ent_in (ad : Nat → Nat) : ∀ (vs : List Value) (n off : Nat), jj_wd vs ≤ n → n < 1000 → ∀ (i : Nat) (v : Value), (jj_ent vs n)[i]? = some v → v ≠ .null → (off + i, jj_tr ad v) ∈ lv_args off (vs.map (jj_tr ad))
  | [], n, off, _, _, i, v, h, hv => by
    have h : (List.replicate n Value.null)[i]? = some v := h
    rw [List.getElem?_replicate] at h
    split at h
    · cases h; exact absurd rfl hv
    · cases h
  | .long x :: l, n, off, hw, hn, i, v, h, hv => by
    have hw : jj_wd l + 2 ≤ n := hw
    show (off + i, jj_tr ad v) ∈ (off, Value.long x) :: lv_args (off + 2) (l.map (jj_tr ad))
    match i, h with
    | 0, h =>
      have h : some (Value.long x) = some v := h
      cases h
      exact List.mem_cons_self
    | 1, h =>
      have h : some Value.null = some v := h
      cases h
      exact absurd rfl hv
    | i + 2, h =>
      have h : (jj_ent l (n - 2))[i]? = some v := h
      have := jj_ent_in ad l (n - 2) (off + 2) (by omega) (by omega) i v h hv
      rw [show off + (i + 2) = off + 2 + i by omega]
      exact List.mem_cons_of_mem _ this
  | .int x :: l, n, off, hw, hn, i, v, h, hv => by
    have hw : jj_wd l + 1 ≤ n := hw
    show (off + i, jj_tr ad v) ∈ (off, Value.int x) :: lv_args (off + 1) (l.map (jj_tr ad))
    match i, h with
    | 0, h =>
      have h : some (Value.int x) = some v := h
      cases h
      exact List.mem_cons_self
    | i + 1, h =>
      have h : (jj_ent l (n - 1))[i]? = some v := h
      have := jj_ent_in ad l (n - 1) (off + 1) (by omega) (by omega) i v h hv
      rw [show off + (i + 1) = off + 1 + i by omega]
      exact List.mem_cons_of_mem _ this
  | .ref x :: l, n, off, hw, hn, i, v, h, hv => by
    have hw : jj_wd l + 1 ≤ n := hw
    show (off + i, jj_tr ad v) ∈ (off, Value.ref (ad x)) :: lv_args (off + 1) (l.map (jj_tr ad))
    match i, h with
    | 0, h =>
      have h : some (Value.ref x) = some v := h
      cases h
      exact List.mem_cons_self
    | i + 1, h =>
      have h : (jj_ent l (n - 1))[i]? = some v := h
      have := jj_ent_in ad l (n - 1) (off + 1) (by omega) (by omega) i v h hv
      rw [show off + (i + 1) = off + 1 + i by omega]
      exact List.mem_cons_of_mem _ this
  | .float _ :: l, n, off, hw, hn, i, v, h, hv => by have hw : 1000 ≤ n := hw; omega
  | .double _ :: l, n, off, hw, hn, i, v, h, hv => by have hw : 1000 ≤ n := hw; omega
  | .null :: l, n, off, hw, hn, i, v, h, hv => by have hw : 1000 ≤ n := hw; omega
  | .retAddr _ :: l, n, off, hw, hn, i, v, h, hv => by have hw : 1000 ≤ n := hw; omega
theorem jj_fin_st {ret : Option FieldType} {ins : Instr} {st : List Value} {rv : Option Value} (h : jj_fin ret ins st = some rv) : st = rv.toList ∧ ((ins = .ireturn ∧ ∃ x, rv = some (.int x) ∧ jj_rok ret x = true) ∨ (ins = .lreturn ∧ ∃ x, rv = some (.long x) ∧ ret = some .long) ∨ (ins = .areturn ∧ ∃ x, rv = some (.ref x) ∧ jj_aok ret = true) ∨ (ins = .return_ ∧ rv = none ∧ ret = none)) := by
  unfold jj_fin at h
  split at h
  · split at h
    · next x =>
      by_cases hr : jj_rok ret x = true
      · rw [if_pos hr] at h; cases h; exact ⟨rfl, Or.inl ⟨rfl, x, rfl, hr⟩⟩
      · rw [if_neg hr] at h; cases h
    · cases h
  · split at h
    · next x =>
      by_cases hr : ret = some .long
      · rw [if_pos hr] at h; cases h; exact ⟨rfl, Or.inr (Or.inl ⟨rfl, x, rfl, hr⟩)⟩
      · rw [if_neg hr] at h; cases h
    · cases h
  · split at h
    · next x =>
      by_cases hr : jj_aok ret = true
      · rw [if_pos hr] at h; cases h; exact ⟨rfl, Or.inr (Or.inr (Or.inl ⟨rfl, x, rfl, hr⟩))⟩
      · rw [if_neg hr] at h; cases h
    · cases h
  · split at h
    · by_cases hr : ret = none
      · rw [if_pos hr] at h; cases h; exact ⟨rfl, Or.inr (Or.inr (Or.inr ⟨rfl, rfl, hr⟩))⟩
      · rw [if_neg hr] at h; cases h
    · cases h
  · cases h
theorem jj_met {l : Launch} {D : va_G} {ad : Nat → Nat} {cA : Nat → ClassId} {b : Nat} {sc : Nat × (Nat → Int32)} {d : Nat} {M : jj_M} {vs : List Value} {h : jj_Hp} {rv : Option Value} {h' : jj_Hp} (hok : jj_okM M) (hwd : jj_wd vs ≤ M.2.1) (hs : jj_Snd l D ad cA b sc d M 0 (jj_ent vs M.2.1) [] h rv h') (sz : Nat) :
    Met l M.1.1 (jj_ws M) (jj_rm d) (jj_Pc D ad cA b sc vs h sz) (jj_Q D ad cA rv h' (jj_A ad sz)) 0 0 (jj_A ad sz) := by
  obtain ⟨ok1, ok2, ok3, ok4, ok5, ok6, ok7, ok8⟩ := hok
  refine jj_ofW (cc := M.1.2) (maxL := M.2.1) (ret := M.2.2.1) ok1 rfl ?_
  intro p e s m args below meth c s₁ B hml hv
  obtain ⟨rfl, hsz, hP, hK, hKa, hX, hbl⟩ := hv
  have hx := B.exec
  have hb := B.bytes
  have hr := B.returns
  have hts := atoms_spec (ws := jj_ws M) B.pre
  have hown : s.vm.findClass M.1.1.cls = some m.cls := findClass_of_methodNamed B.named
  have hlocks := B.notSynchronized
  subst hsz
  obtain ⟨el, ew⟩ := jj_ent_len vs M.2.1 hwd (by omega)
  have hl := lv_entry (vs.map (jj_tr ad)) (n := M.2.1) (by rw [ew ad]; exact hwd)
  rw [lg_entry_eq]
  generalize (lg_sl (vs.map (jj_tr ad)) ++ List.replicate (M.2.1 - (lg_sl (vs.map (jj_tr ad))).length) Slot.unset).toArray = ls at hl ⊢
  have hL : jj_L ad ls M.2.1 (jj_ent vs M.2.1) := ⟨⟨hl.1, hl.2.1, fun q hq => by cases hq⟩, el, fun i v hi hv => by
    have := jj_ent_in ad vs M.2.1 0 hwd (by omega) i v hi hv
    rw [Nat.zero_add] at this
    exact hl.2.2 _ this⟩
  refine hs p e _ s m _ below meth c ⟨hx, hb, hr, hlocks, hml, by rw [ok3]; exact hown, fun w hw => hts w (List.mem_cons_of_mem _ hw), hK, hKa, hX, hbl, Nat.le_refl d, Nat.le_refl (60 * d)⟩ s.heap [] 0 0 _ ls hP va_S.rf hL (Nat.zero_le _) (Nat.zero_le _) ?_
  intro H1 locs1 pc1 ls1 hP1 hS1 he
  obtain ⟨ins, st, hd, hf⟩ := he
  obtain ⟨e1, hc⟩ := jj_fin_st hf
  rcases hc with ⟨rfl, x, rfl, hrok⟩ | ⟨rfl, x, rfl, hrok⟩ | ⟨rfl, x, rfl, hrok⟩ | ⟨rfl, rfl, hrok⟩
  · obtain ⟨ty, hty, hn⟩ : ∃ ty, M.2.2.1 = some ty ∧ narrow ty (.int x) = .int x := by
      unfold jj_rok at hrok
      split at hrok
      · next q => exact ⟨.int, by assumption, rfl⟩
      · next q => exact ⟨.boolean, by assumption, by rcases jj_b01_or hrok with rfl | rfl <;> rfl⟩
      · cases hrok
    exact W.zret hx hb (hr.trans hty) hn (fun t ht hW => ⟨rfl, by rw [ht]; exact hP1, hS1.F ht⟩) hS1.2.2 hd
  · exact W.lret hx hb (hr.trans hrok) (fun t ht hW => ⟨rfl, by rw [ht]; exact hP1, hS1.F ht⟩) hS1.2.2 hd
  · obtain ⟨ty, hty, hn⟩ : ∃ ty, M.2.2.1 = some ty ∧ ((∃ n, ty = .object n) ∨ ∃ t, ty = .array t) := by
      unfold jj_aok at hrok
      split at hrok
      · next q => exact ⟨_, by assumption, Or.inl ⟨_, rfl⟩⟩
      · next q => exact ⟨_, by assumption, Or.inr ⟨_, rfl⟩⟩
      · cases hrok
    exact W.aret hx hb (hr.trans hty) hn (Or.inr ⟨_, rfl⟩) (fun t ht hW => ⟨rfl, by rw [ht]; exact hP1, hS1.F ht⟩) hS1.2.2 hd
  · exact W.vret hx hb (hr.trans hrok) (fun t ht hW => ⟨rfl, by rw [ht]; exact hP1, hS1.F ht⟩) hS1.2.2 hd
theorem jj_good {M M' : jj_M} (hok : jj_okM M') : GoodIn (jj_ws M) (jj_ws M') := by
  intro w hw
  have hm : w ∈ jj_wl := (List.mem_cons.mp hw).elim (fun q => by rw [q]; exact hok.2.1) id
  exact ⟨List.mem_cons_of_mem _ hm, good_of_word (jj_wl_good w hm)⟩
theorem jj_goodW {M' : jj_M} (hok : jj_okM M') : GoodIn jj_wl (jj_ws M') := by
  intro w hw
  have hm : w ∈ jj_wl := (List.mem_cons.mp hw).elim (fun q => by rw [q]; exact hok.2.1) id
  exact ⟨hm, good_of_word (jj_wl_good w hm)⟩
theorem jj_blind {D : va_G} {ad : Nat → Nat} {cA : Nat → ClassId} {b : Nat} {sc : Nat × (Nat → Int32)} {vs : List Value} {h : jj_Hp} {sz : Nat} : FrameBlind (jj_Pc D ad cA b sc vs h sz) := by
  intro a U g mk q
  obtain ⟨q0, q1, q2, q3, q4, q5, q6⟩ := q
  exact ⟨q0, q1, q2, va_K.moved (u := U) (U := U.calling g mk a) (Vm.Alike.refl U.vm) q3, fun a' t n hn => va_K.moved (u := U) (U := U.calling g mk a) (Vm.Alike.refl U.vm) (q4 a' t n hn), va_X.moved (u := U) (U := U.calling g mk a) (Vm.Alike.refl U.vm) q5, q6⟩
theorem jj_exec_sc : ∀ (n d : Nat) (M : jj_M) (pc : Nat) (lc st : List Value) (h : jj_Hp) (rv : Option Value) (h' : jj_Hp), jj_exec n d M pc lc st h = some (rv, h') → h'.2.2 = h.2.2
  | 0, d, M, pc, lc, st, h, rv, h', hx => by cases hx
  | n + 1, d, M, pc, lc, st, h, rv, h', hx => by
    unfold jj_exec at hx
    split at hx
    · next ins len hd =>
      split at hx
      · next hlen =>
        split at hx
        · cases hx; rfl
        · split at hx
          · next q hq =>
            split at hx
            · cases d with
              | zero => cases hx
              | succ d' =>
                dsimp only at hx
                split at hx
                · next r h1 hc =>
                  exact (jj_exec_sc n _ _ _ _ _ _ _ _ hx).trans (jj_exec_sc n _ _ _ _ _ _ _ _ hc)
                · cases hx
            · cases hx
          · split at hx
            · next P hP =>
              exact (jj_exec_sc n _ _ _ _ _ _ _ _ hx).trans (jj_step hd hlen hP).1
            · cases hx
      · cases hx
    · cases hx
end
section
/-! a call, from our function's -/
theorem jj_callOne {l : Launch} {D : va_G} {ad : Nat → Nat} {cA : Nat → ClassId} {b : Nat} {sc : Nat × (Nat → Int32)} {d : Nat} {M : jj_M} {ins : Instr} {pc : Nat} {st : List Value} {q : jj_M × List Value × List Value} {h : jj_Hp} {r : Option Value} {h1 : jj_Hp}
    (hAd : jj_Ad ad b) (hd : decode M.1.2 pc = .ok (ins, 3)) (hq : jj_cal M.2.2.2.1 ins st = some q) (hc : jj_cok q = true) (hS1 : jj_okM q.1 → jj_Snd l D ad cA b sc d q.1 0 (jj_ent q.2.1 q.1.2.1) [] h r h1)
    {p : Program} {e : Env} {R : Room} {s : State} {m : MethodId} {args : Array Value} {below : List Frame} {meth : Method} {c : Code} (Cx : jj_Cx D cA b sc p R s m args meth c M (d + 1))
    {H : Heap} {locs : List Loc} {cells slots : Nat} {Q : State → Prop} {ls : Array Slot} (hP : va_P D vwCl (jj_w ad cA h) H) (hS : va_S (jj_A ad s.heap.size) s.heap H locs) (hls : ls.size = M.2.1) (hcl : cells ≤ R.cells) (hsl : slots ≤ R.slots)
    (k : ∀ (H1 : Heap) (locs1 : List Loc), va_P D vwCl (jj_w ad cA h1) H1 → va_S (jj_A ad s.heap.size) s.heap H1 locs1 → W p l e R s m args below meth c H1 locs1 cells slots Q (F0 m (pc + 3) ls ((r.map (jj_tr ad)).toList ++ q.2.2.map (jj_tr ad)))) :
    W p l e R s m args below meth c H locs cells slots Q (F0 m pc ls (st.map (jj_tr ad))) := by
  obtain ⟨hx, hb, hr, hlk, hml, hown, hts, hK, hKa, hX, hbl, hfr, hlo⟩ := Cx
  have hX1 : va_X b sc.1 sc.2 s H := hX.kept (hS.2.1 b hbl (jj_nb hAd hbl))
  have hb1 : b < H.size := Nat.lt_of_lt_of_le hbl hS.1
  have hA1 : ∀ z, jj_A ad H.size z → jj_A ad s.heap.size z := fun z hz => hz.elim Or.inl (fun y => Or.inr (Nat.le_trans hS.1 y))
  unfold jj_cok at hc
  simp only [Bool.and_eq_true, decide_eq_true_eq] at hc
  have hcat : (q.2.2.map (jj_tr ad)).map (fun v => v.category) = q.2.2.map (fun v => v.category) := by
    rw [List.map_map]
    exact List.map_congr_left (fun v _ => jj_tr_cat ad v)
  have hroom : ((q.2.2.map (jj_tr ad)).map fun v => v.category).sum ≤ 8 := by rw [hcat]; exact hc.2
  unfold jj_cal at hq
  split at hq
  · next i =>
    obtain ⟨M', hM, h2⟩ := jj_bmap (γ := Nat) hq
    obtain ⟨hok, w1, w2, w3⟩ := jj_mv_ok _ (i, M') (jj_look hM)
    split at h2
    · next a rr hdr =>
      by_cases hi : jj_sh[a]? = some (.inl M'.2.2.2.1) ∧ (st.take M'.2.2.2.2).length = M'.2.2.2.2
      rotate_left
      · rw [if_neg hi] at h2; cases h2
      rw [if_pos hi] at h2
      cases h2
      dsimp only at hc hroom hS1 k
      have hMet := jj_met (vs := .ref a :: (st.take M'.2.2.2.2).reverse) hok hc.1 (hS1 hok) H.size
      obtain ⟨ha, hc1, hc2, hc3, hc4, hc5⟩ := jj_clsL hi.1
      have hst : st = st.take M'.2.2.2.2 ++ .ref a :: rr := by rw [← hdr, List.take_append_drop]
      have hstk : st.map (jj_tr ad) = (((st.take M'.2.2.2.2).reverse).map (jj_tr ad)).reverse ++ .ref (ad a) :: rr.map (jj_tr ad) := by
        rw [← List.map_reverse, List.reverse_reverse]
        exact (congrArg (List.map (jj_tr ad)) hst).trans (List.map_append)
      have ok3 := hok.2.2.1
      refine jj_call (D := D) (ad := ad) (cA := cA) (rv := r) (h' := h1) (va_runV (As := ((st.take M'.2.2.2.2).reverse).map (jj_tr ad)) (b := ad a) (rest := rr.map (jj_tr ad)) (C := M'.1.1.cls) (n := M'.2.2.2.2) (Ts := jj_wl) ⟨hx, hb, hml, hown, hts⟩ hMet
        ⟨callB_of (ws' := jj_wl) M'.2.2.2.2 hts (jj_goodW hok) rfl rfl rfl (hts _ hok.2.2.2.1) (hts _ w1) ⟨hok.2.2.2.2.1, hok.2.2.2.2.2.1, hok.2.2.2.2.2.2.1⟩ ⟨hfr, by have hz : M'.2.1 < 30 := hok.2.2.2.2.2.2.2; show 8 + (M'.2.1 + 11) + 60 * d ≤ R.locals; omega⟩, hts _ w2, hts _ w3⟩
        ⟨jj_blind, ?_, ?_⟩ rfl (by rw [List.length_map, List.length_reverse]; exact hi.2) hls hstk (lv_room hroom) hd ⟨hcl, hsl⟩) hS (fun z _ hz => hA1 z hz) hA1 k
      · have := va_recv hK hP (ci := M'.2.2.2.1) (q0 := a) hc1 (by rw [jj_w_get ha, jj_ce_ob hi.1])
        rw [← ok3]
        exact this
      · intro U hU hW
        refine ⟨rfl, by rw [hU], by rw [hU]; exact hP, va_K.moved hW.alike hK, fun a' t n hn => va_K.moved hW.alike (hKa a' t n hn), ?_, by rw [hU]; exact hb1⟩
        have := va_X.moved (U := U) hW.alike hX1
        rw [hU]; exact this
    · cases h2
  · next i =>
    obtain ⟨M', hM, h2⟩ := jj_bmap (γ := Nat) hq
    obtain ⟨hok, w1, w2⟩ := jj_ms_ok _ (i, M') (jj_look hM)
    by_cases hi : (st.take M'.2.2.2.2).length = M'.2.2.2.2
    rotate_left
    · rw [if_neg hi] at h2; cases h2
    rw [if_pos hi] at h2
    cases h2
    dsimp only at hc hroom hS1 k
    have hMet := jj_met (vs := (st.take M'.2.2.2.2).reverse) hok hc.1 (hS1 hok) H.size
    have hst : st = st.take M'.2.2.2.2 ++ st.drop M'.2.2.2.2 := by rw [List.take_append_drop]
    have hstk : st.map (jj_tr ad) = (((st.take M'.2.2.2.2).reverse).map (jj_tr ad)).reverse ++ (st.drop M'.2.2.2.2).map (jj_tr ad) := by
      rw [← List.map_reverse, List.reverse_reverse]
      exact (congrArg (List.map (jj_tr ad)) hst).trans (List.map_append)
    refine jj_call (D := D) (ad := ad) (cA := cA) (rv := r) (h' := h1) (va_runS (As := ((st.take M'.2.2.2.2).reverse).map (jj_tr ad)) (rest := (st.drop M'.2.2.2.2).map (jj_tr ad)) (n := M'.2.2.2.2) (Ts := jj_wl) ⟨hx, hb, hml, hown, hts⟩ hMet
      ⟨callB_of (ws' := jj_wl) M'.2.2.2.2 hts (jj_goodW hok) rfl rfl rfl (hts _ hok.2.2.2.1) (hts _ w1) ⟨hok.2.2.2.2.1, hok.2.2.2.2.2.1, hok.2.2.2.2.2.2.1⟩ ⟨hfr, by have hz : M'.2.1 < 30 := hok.2.2.2.2.2.2.2; show 8 + (M'.2.1 + 11) + 60 * d ≤ R.locals; omega⟩, hts _ w2⟩
      ⟨jj_blind, ?_⟩ rfl (by rw [List.length_map, List.length_reverse]; exact hi) hls hstk (lv_room hroom) hd ⟨hcl, hsl⟩) hS (fun z _ hz => hA1 z hz) hA1 k
    intro U hU hW
    refine ⟨rfl, by rw [hU], by rw [hU]; exact hP, va_K.moved hW.alike hK, fun a' t n hn => va_K.moved hW.alike (hKa a' t n hn), ?_, by rw [hU]; exact hb1⟩
    have := va_X.moved (U := U) hW.alike hX1
    rw [hU]; exact this
  · cases hq
theorem jj_cal_len {c : Nat} {ins : Instr} {st : List Value} {q : jj_M × List Value × List Value} {len : Nat} (h : jj_cal c ins st = some q) (hl : jj_len ins len = len) : len = 3 := by
  unfold jj_cal at h
  split at h
  · exact hl.symm
  · exact hl.symm
  · cases h
theorem jj_fin_len {c : Option FieldType} {ins : Instr} {st : List Value} {q : Option Value} {len : Nat} (h : jj_fin c ins st = some q) (hl : jj_len ins len = len) : len = 1 := by
  unfold jj_fin at h
  split at h
  · exact hl.symm
  · exact hl.symm
  · exact hl.symm
  · exact hl.symm
  · cases h
/-- OUR FUNCTION'S RUN IS THE MACHINE'S -/
theorem jj_sound {l : Launch} {D : va_G} {ad : Nat → Nat} {cA : Nat → ClassId} {b : Nat} {sc : Nat × (Nat → Int32)} (hAd : jj_Ad ad b) : ∀ (n d : Nat) (M : jj_M) (pc : Nat) (lc st : List Value) (h : jj_Hp) (rv : Option Value) (h' : jj_Hp), jj_exec n d M pc lc st h = some (rv, h') → h.2.2 = sc → jj_Snd l D ad cA b sc d M pc lc st h rv h'
  | 0, d, M, pc, lc, st, h, rv, h', hx, hsc => by cases hx
  | n + 1, d, M, pc, lc, st, h, rv, h', hx, hsc => by
    intro p e R s m args below meth c Cx H locs cells slots Q ls hP hS hl hcl hsl hfin
    unfold jj_exec at hx
    split at hx
    · next ins len hd =>
      split at hx
      · next hlen =>
        split at hx
        · next r hf =>
          cases hx
          have e1 := (jj_fin_st hf).1
          have e2 := jj_fin_len hf hlen
          subst e2
          have := hfin H locs pc ls hP hS ⟨ins, st, hd, hf⟩
          rw [← e1] at this
          exact this
        · split at hx
          · next q hq =>
            split at hx
            · next hc =>
              cases d with
              | zero => cases hx
              | succ d' =>
                dsimp only at hx
                split at hx
                · next r h1 hcall =>
                  have e2 := jj_cal_len hq hlen
                  subst e2
                  refine jj_callOne hAd hd hq hc (fun _ => jj_sound hAd n d' q.1 0 _ [] h r h1 hcall hsc) Cx hP hS hl.1.1 hcl hsl (fun H1 locs1 hP1 hS1 => ?_)
                  have hsc1 : h1.2.2 = sc := (jj_exec_sc n _ _ _ _ _ _ _ _ hcall).trans hsc
                  have := jj_sound hAd n (d' + 1) M (pc + 3) lc (r.toList ++ q.2.2) h1 rv h' hx hsc1 p e R s m args below meth c Cx H1 locs1 cells slots Q ls hP1 hS1 hl hcl hsl hfin
                  have e3 : (r.toList ++ q.2.2).map (jj_tr ad) = (r.map (jj_tr ad)).toList ++ q.2.2.map (jj_tr ad) := by
                    rw [List.map_append]
                    cases r <;> rfl
                  rw [← e3]
                  exact this
                · cases hx
            · cases hx
          · split at hx
            · next P hPp =>
              obtain ⟨g1, g2⟩ := jj_step hd hlen hPp
              exact g2 hAd Cx hsc hP hS hl (fun H1 locs1 ls1 hP1 hS1 hl1 => jj_sound hAd n d M P.1 P.2.1 P.2.2.1 P.2.2.2 rv h' hx (g1.trans hsc) p e R s m args below meth c Cx H1 locs1 cells slots Q ls1 hP1 hS1 hl1 hcl hsl hfin)
            · cases hx
      · cases hx
    · cases hx
end

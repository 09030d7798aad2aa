section
-- ===== PART A: goes FIRST, ahead of the names: the tables' words, and 'selects' of the private methods out of them =====
/-- a private method of a class that the tables say can be made, by its rows of tables_1 -/
def lw_okq (q : MethodName × Nat) : Prop := (q.1.cls ≠ "java/lang/invoke/MethodHandle" ∧ q.1.cls ≠ "java/lang/invoke/VarHandle") ∧ Cond.instantiable q.1.cls q.2 ∈ tables_1 ∧ Cond.privateMethod q.1 ∈ tables_1 ∧ Cond.instanceMethod q.1 ∈ tables_1
theorem lw_p0 : lw_okq (⟨"RulePrices", "markChanged", "()V"⟩, 7) := ⟨⟨by decide +kernel, by decide +kernel⟩, List.mem_of_getElem? (i := 11) (by decide +kernel), List.mem_of_getElem? (i := 212) (by decide +kernel), List.mem_of_getElem? (i := 213) (by decide +kernel)⟩
theorem lw_p1 : lw_okq (⟨"RulePrices", "isThing", "(I)Z"⟩, 7) := ⟨⟨by decide +kernel, by decide +kernel⟩, List.mem_of_getElem? (i := 11) (by decide +kernel), List.mem_of_getElem? (i := 227) (by decide +kernel), List.mem_of_getElem? (i := 228) (by decide +kernel)⟩
theorem lw_p2 : lw_okq (⟨"RulePrices", "isRule", "(I)Z"⟩, 7) := ⟨⟨by decide +kernel, by decide +kernel⟩, List.mem_of_getElem? (i := 11) (by decide +kernel), List.mem_of_getElem? (i := 243) (by decide +kernel), List.mem_of_getElem? (i := 244) (by decide +kernel)⟩
theorem lw_p3 : lw_okq (⟨"RulePrices", "replace", "([III)I"⟩, 7) := ⟨⟨by decide +kernel, by decide +kernel⟩, List.mem_of_getElem? (i := 11) (by decide +kernel), List.mem_of_getElem? (i := 247) (by decide +kernel), List.mem_of_getElem? (i := 248) (by decide +kernel)⟩
theorem lw_p4 : lw_okq (⟨"RulePrices", "freshSurvey", "()LRulePrices$Survey;"⟩, 7) := ⟨⟨by decide +kernel, by decide +kernel⟩, List.mem_of_getElem? (i := 11) (by decide +kernel), List.mem_of_getElem? (i := 263) (by decide +kernel), List.mem_of_getElem? (i := 264) (by decide +kernel)⟩
theorem lw_p5 : lw_okq (⟨"RulePrices$Survey", "lookAt", "(LRulePrices$Walk;)V"⟩, 9) := ⟨⟨by decide +kernel, by decide +kernel⟩, List.mem_of_getElem? (i := 110) (by decide +kernel), List.mem_of_getElem? (i := 284) (by decide +kernel), List.mem_of_getElem? (i := 285) (by decide +kernel)⟩
theorem lw_p6 : lw_okq (⟨"RulePrices$Walk", "load", "(I)I"⟩, 6) := ⟨⟨by decide +kernel, by decide +kernel⟩, List.mem_of_getElem? (i := 82) (by decide +kernel), List.mem_of_getElem? (i := 292) (by decide +kernel), List.mem_of_getElem? (i := 293) (by decide +kernel)⟩
theorem lw_p7 : lw_okq (⟨"RulePrices$Survey", "noteFitting", "([II)V"⟩, 9) := ⟨⟨by decide +kernel, by decide +kernel⟩, List.mem_of_getElem? (i := 110) (by decide +kernel), List.mem_of_getElem? (i := 300) (by decide +kernel), List.mem_of_getElem? (i := 301) (by decide +kernel)⟩
theorem lw_p8 : lw_okq (⟨"RulePrices$Survey", "noteBetter", "([II)V"⟩, 9) := ⟨⟨by decide +kernel, by decide +kernel⟩, List.mem_of_getElem? (i := 110) (by decide +kernel), List.mem_of_getElem? (i := 307) (by decide +kernel), List.mem_of_getElem? (i := 308) (by decide +kernel)⟩
theorem lw_p9 : lw_okq (⟨"RulePrices$Survey", "noteEqual", "([I)V"⟩, 9) := ⟨⟨by decide +kernel, by decide +kernel⟩, List.mem_of_getElem? (i := 110) (by decide +kernel), List.mem_of_getElem? (i := 311) (by decide +kernel), List.mem_of_getElem? (i := 312) (by decide +kernel)⟩
theorem lw_p10 : lw_okq (⟨"RulePrices$Walk", "shift", "(II)V"⟩, 6) := ⟨⟨by decide +kernel, by decide +kernel⟩, List.mem_of_getElem? (i := 82) (by decide +kernel), List.mem_of_getElem? (i := 319) (by decide +kernel), List.mem_of_getElem? (i := 320) (by decide +kernel)⟩
theorem lw_p11 : lw_okq (⟨"RulePrices$Survey", "restWith", "(III)I"⟩, 9) := ⟨⟨by decide +kernel, by decide +kernel⟩, List.mem_of_getElem? (i := 110) (by decide +kernel), List.mem_of_getElem? (i := 393) (by decide +kernel), List.mem_of_getElem? (i := 394) (by decide +kernel)⟩
theorem lw_p12 : lw_okq (⟨"RulePrices", "freshCorners", "()LRulePrices$Corners;"⟩, 7) := ⟨⟨by decide +kernel, by decide +kernel⟩, List.mem_of_getElem? (i := 11) (by decide +kernel), List.mem_of_getElem? (i := 426) (by decide +kernel), List.mem_of_getElem? (i := 427) (by decide +kernel)⟩
theorem lw_p13 : lw_okq (⟨"RulePrices$Corners", "tryCorner", "(LRulePrices$Book;II)V"⟩, 6) := ⟨⟨by decide +kernel, by decide +kernel⟩, List.mem_of_getElem? (i := 150) (by decide +kernel), List.mem_of_getElem? (i := 444) (by decide +kernel), List.mem_of_getElem? (i := 445) (by decide +kernel)⟩
theorem lw_p14 : lw_okq (⟨"RulePrices$Corners", "writeEquations", "(LRulePrices$Book;II)V"⟩, 6) := ⟨⟨by decide +kernel, by decide +kernel⟩, List.mem_of_getElem? (i := 150) (by decide +kernel), List.mem_of_getElem? (i := 454) (by decide +kernel), List.mem_of_getElem? (i := 455) (by decide +kernel)⟩
theorem lw_p15 : lw_okq (⟨"RulePrices$Corners", "writePrices", "(IIJ)Z"⟩, 6) := ⟨⟨by decide +kernel, by decide +kernel⟩, List.mem_of_getElem? (i := 150) (by decide +kernel), List.mem_of_getElem? (i := 461) (by decide +kernel), List.mem_of_getElem? (i := 462) (by decide +kernel)⟩
def lw_privs_1 : List (MethodName × Nat) := [(⟨"RulePrices", "markChanged", "()V"⟩, 7), (⟨"RulePrices", "isThing", "(I)Z"⟩, 7), (⟨"RulePrices", "isRule", "(I)Z"⟩, 7), (⟨"RulePrices", "replace", "([III)I"⟩, 7), (⟨"RulePrices", "freshSurvey", "()LRulePrices$Survey;"⟩, 7), (⟨"RulePrices$Survey", "lookAt", "(LRulePrices$Walk;)V"⟩, 9), (⟨"RulePrices$Walk", "load", "(I)I"⟩, 6), (⟨"RulePrices$Survey", "noteFitting", "([II)V"⟩, 9), (⟨"RulePrices$Survey", "noteBetter", "([II)V"⟩, 9), (⟨"RulePrices$Survey", "noteEqual", "([I)V"⟩, 9), (⟨"RulePrices$Walk", "shift", "(II)V"⟩, 6), (⟨"RulePrices$Survey", "restWith", "(III)I"⟩, 9), (⟨"RulePrices", "freshCorners", "()LRulePrices$Corners;"⟩, 7), (⟨"RulePrices$Corners", "tryCorner", "(LRulePrices$Book;II)V"⟩, 6), (⟨"RulePrices$Corners", "writeEquations", "(LRulePrices$Book;II)V"⟩, 6), (⟨"RulePrices$Corners", "writePrices", "(IIJ)Z"⟩, 6)]
theorem lw_r1 : ∀ q ∈ lw_privs_1, lw_okq q := List.forall_mem_cons.mpr ⟨lw_p0, List.forall_mem_cons.mpr ⟨lw_p1, List.forall_mem_cons.mpr ⟨lw_p2, List.forall_mem_cons.mpr ⟨lw_p3, List.forall_mem_cons.mpr ⟨lw_p4, List.forall_mem_cons.mpr ⟨lw_p5, List.forall_mem_cons.mpr ⟨lw_p6, List.forall_mem_cons.mpr ⟨lw_p7, List.forall_mem_cons.mpr ⟨lw_p8, List.forall_mem_cons.mpr ⟨lw_p9, List.forall_mem_cons.mpr ⟨lw_p10, List.forall_mem_cons.mpr ⟨lw_p11, List.forall_mem_cons.mpr ⟨lw_p12, List.forall_mem_cons.mpr ⟨lw_p13, List.forall_mem_cons.mpr ⟨lw_p14, List.forall_mem_cons.mpr ⟨lw_p15, fun _ h => absurd h List.not_mem_nil⟩⟩⟩⟩⟩⟩⟩⟩⟩⟩⟩⟩⟩⟩⟩⟩
theorem lw_p16 : lw_okq (⟨"RulePrices$Corners", "swapDues", "(II)V"⟩, 6) := ⟨⟨by decide +kernel, by decide +kernel⟩, List.mem_of_getElem? (i := 150) (by decide +kernel), List.mem_of_getElem? (i := 465) (by decide +kernel), List.mem_of_getElem? (i := 466) (by decide +kernel)⟩
theorem lw_p17 : lw_okq (⟨"RulePrices$Corners", "boundAt", "(LRulePrices$Book;I)J"⟩, 6) := ⟨⟨by decide +kernel, by decide +kernel⟩, List.mem_of_getElem? (i := 150) (by decide +kernel), List.mem_of_getElem? (i := 472) (by decide +kernel), List.mem_of_getElem? (i := 473) (by decide +kernel)⟩
theorem lw_p18 : lw_okq (⟨"RulePrices$Corners", "boundAbove", "(II)J"⟩, 6) := ⟨⟨by decide +kernel, by decide +kernel⟩, List.mem_of_getElem? (i := 150) (by decide +kernel), List.mem_of_getElem? (i := 487) (by decide +kernel), List.mem_of_getElem? (i := 488) (by decide +kernel)⟩
theorem lw_p19 : lw_okq (⟨"RulePrices$Corners", "slopeBelow", "(III)J"⟩, 6) := ⟨⟨by decide +kernel, by decide +kernel⟩, List.mem_of_getElem? (i := 150) (by decide +kernel), List.mem_of_getElem? (i := 507) (by decide +kernel), List.mem_of_getElem? (i := 508) (by decide +kernel)⟩
theorem lw_p20 : lw_okq (⟨"RulePrices", "toldCount", "(I)I"⟩, 7) := ⟨⟨by decide +kernel, by decide +kernel⟩, List.mem_of_getElem? (i := 11) (by decide +kernel), List.mem_of_getElem? (i := 532) (by decide +kernel), List.mem_of_getElem? (i := 533) (by decide +kernel)⟩
theorem lw_p21 : lw_okq (⟨"RulePricesModel", "isThing", "(I)Z"⟩, 31) := ⟨⟨by decide +kernel, by decide +kernel⟩, List.mem_of_getElem? (i := 540) (by decide +kernel), List.mem_of_getElem? (i := 661) (by decide +kernel), List.mem_of_getElem? (i := 662) (by decide +kernel)⟩
theorem lw_p22 : lw_okq (⟨"RulePricesModel", "isRule", "(I)Z"⟩, 31) := ⟨⟨by decide +kernel, by decide +kernel⟩, List.mem_of_getElem? (i := 540) (by decide +kernel), List.mem_of_getElem? (i := 669) (by decide +kernel), List.mem_of_getElem? (i := 670) (by decide +kernel)⟩
theorem lw_p23 : lw_okq (⟨"RulePricesModel", "look", "(II)V"⟩, 31) := ⟨⟨by decide +kernel, by decide +kernel⟩, List.mem_of_getElem? (i := 540) (by decide +kernel), List.mem_of_getElem? (i := 687) (by decide +kernel), List.mem_of_getElem? (i := 688) (by decide +kernel)⟩
theorem lw_p24 : lw_okq (⟨"RulePricesModel", "fits", "([I)Z"⟩, 31) := ⟨⟨by decide +kernel, by decide +kernel⟩, List.mem_of_getElem? (i := 540) (by decide +kernel), List.mem_of_getElem? (i := 691) (by decide +kernel), List.mem_of_getElem? (i := 692) (by decide +kernel)⟩
theorem lw_p25 : lw_okq (⟨"RulePricesModel", "isAs", "(I[I)Z"⟩, 31) := ⟨⟨by decide +kernel, by decide +kernel⟩, List.mem_of_getElem? (i := 540) (by decide +kernel), List.mem_of_getElem? (i := 695) (by decide +kernel), List.mem_of_getElem? (i := 696) (by decide +kernel)⟩
theorem lw_p26 : lw_okq (⟨"RulePricesModel", "take", "()V"⟩, 31) := ⟨⟨by decide +kernel, by decide +kernel⟩, List.mem_of_getElem? (i := 540) (by decide +kernel), List.mem_of_getElem? (i := 699) (by decide +kernel), List.mem_of_getElem? (i := 700) (by decide +kernel)⟩
theorem lw_p27 : lw_okq (⟨"RulePricesModel", "valueOf", "([I)I"⟩, 31) := ⟨⟨by decide +kernel, by decide +kernel⟩, List.mem_of_getElem? (i := 540) (by decide +kernel), List.mem_of_getElem? (i := 703) (by decide +kernel), List.mem_of_getElem? (i := 704) (by decide +kernel)⟩
theorem lw_p28 : lw_okq (⟨"RulePricesModel", "shares", "(I)V"⟩, 31) := ⟨⟨by decide +kernel, by decide +kernel⟩, List.mem_of_getElem? (i := 540) (by decide +kernel), List.mem_of_getElem? (i := 764) (by decide +kernel), List.mem_of_getElem? (i := 765) (by decide +kernel)⟩
theorem lw_p29 : lw_okq (⟨"RulePricesModel", "rowsNow", "()V"⟩, 31) := ⟨⟨by decide +kernel, by decide +kernel⟩, List.mem_of_getElem? (i := 540) (by decide +kernel), List.mem_of_getElem? (i := 768) (by decide +kernel), List.mem_of_getElem? (i := 769) (by decide +kernel)⟩
theorem lw_p30 : lw_okq (⟨"RulePricesModel", "addRow", "(II)V"⟩, 31) := ⟨⟨by decide +kernel, by decide +kernel⟩, List.mem_of_getElem? (i := 540) (by decide +kernel), List.mem_of_getElem? (i := 772) (by decide +kernel), List.mem_of_getElem? (i := 773) (by decide +kernel)⟩
theorem lw_p31 : lw_okq (⟨"RulePricesModel", "isPriced", "(II)Z"⟩, 31) := ⟨⟨by decide +kernel, by decide +kernel⟩, List.mem_of_getElem? (i := 540) (by decide +kernel), List.mem_of_getElem? (i := 776) (by decide +kernel), List.mem_of_getElem? (i := 777) (by decide +kernel)⟩
def lw_privs_2 : List (MethodName × Nat) := [(⟨"RulePrices$Corners", "swapDues", "(II)V"⟩, 6), (⟨"RulePrices$Corners", "boundAt", "(LRulePrices$Book;I)J"⟩, 6), (⟨"RulePrices$Corners", "boundAbove", "(II)J"⟩, 6), (⟨"RulePrices$Corners", "slopeBelow", "(III)J"⟩, 6), (⟨"RulePrices", "toldCount", "(I)I"⟩, 7), (⟨"RulePricesModel", "isThing", "(I)Z"⟩, 31), (⟨"RulePricesModel", "isRule", "(I)Z"⟩, 31), (⟨"RulePricesModel", "look", "(II)V"⟩, 31), (⟨"RulePricesModel", "fits", "([I)Z"⟩, 31), (⟨"RulePricesModel", "isAs", "(I[I)Z"⟩, 31), (⟨"RulePricesModel", "take", "()V"⟩, 31), (⟨"RulePricesModel", "valueOf", "([I)I"⟩, 31), (⟨"RulePricesModel", "shares", "(I)V"⟩, 31), (⟨"RulePricesModel", "rowsNow", "()V"⟩, 31), (⟨"RulePricesModel", "addRow", "(II)V"⟩, 31), (⟨"RulePricesModel", "isPriced", "(II)Z"⟩, 31)]
theorem lw_r2 : ∀ q ∈ lw_privs_2, lw_okq q := List.forall_mem_cons.mpr ⟨lw_p16, List.forall_mem_cons.mpr ⟨lw_p17, List.forall_mem_cons.mpr ⟨lw_p18, List.forall_mem_cons.mpr ⟨lw_p19, List.forall_mem_cons.mpr ⟨lw_p20, List.forall_mem_cons.mpr ⟨lw_p21, List.forall_mem_cons.mpr ⟨lw_p22, List.forall_mem_cons.mpr ⟨lw_p23, List.forall_mem_cons.mpr ⟨lw_p24, List.forall_mem_cons.mpr ⟨lw_p25, List.forall_mem_cons.mpr ⟨lw_p26, List.forall_mem_cons.mpr ⟨lw_p27, List.forall_mem_cons.mpr ⟨lw_p28, List.forall_mem_cons.mpr ⟨lw_p29, List.forall_mem_cons.mpr ⟨lw_p30, List.forall_mem_cons.mpr ⟨lw_p31, fun _ h => absurd h List.not_mem_nil⟩⟩⟩⟩⟩⟩⟩⟩⟩⟩⟩⟩⟩⟩⟩⟩
theorem lw_p32 : lw_okq (⟨"RulePricesModel", "determinant", "(I)J"⟩, 31) := ⟨⟨by decide +kernel, by decide +kernel⟩, List.mem_of_getElem? (i := 540) (by decide +kernel), List.mem_of_getElem? (i := 780) (by decide +kernel), List.mem_of_getElem? (i := 781) (by decide +kernel)⟩
theorem lw_p33 : lw_okq (⟨"RulePricesModel", "isPrice", "(I)Z"⟩, 31) := ⟨⟨by decide +kernel, by decide +kernel⟩, List.mem_of_getElem? (i := 540) (by decide +kernel), List.mem_of_getElem? (i := 791) (by decide +kernel), List.mem_of_getElem? (i := 792) (by decide +kernel)⟩
def lw_privs_3 : List (MethodName × Nat) := [(⟨"RulePricesModel", "determinant", "(I)J"⟩, 31), (⟨"RulePricesModel", "isPrice", "(I)Z"⟩, 31)]
theorem lw_r3 : ∀ q ∈ lw_privs_3, lw_okq q := List.forall_mem_cons.mpr ⟨lw_p32, List.forall_mem_cons.mpr ⟨lw_p33, fun _ h => absurd h List.not_mem_nil⟩⟩
def lw_privs : List (MethodName × Nat) := lw_privs_1 ++ (lw_privs_2 ++ (lw_privs_3))
def lw_tbl : List Cond := k2_sels lw_privs ++ tables_1
theorem lw_privs_ok : ∀ q ∈ lw_privs, lw_okq q := by
  show ∀ q ∈ lw_privs_1 ++ (lw_privs_2 ++ (lw_privs_3)), lw_okq q
  exact List.forall_mem_append.mpr ⟨lw_r1, List.forall_mem_append.mpr ⟨lw_r2, lw_r3⟩⟩

/-! ===== BEGIN words of one list among another's, by their places ===== -/
theorem goodIn_r {big : List Cond} (ws : List Cond) (ps : List Nat) (hp : ws = ps.filterMap (fun i => big[i]?)) (h : ws.all goodWord = true) : GoodIn big ws := by
  intro w hw
  have h1 := List.all_eq_true.mp h w hw
  rw [hp] at hw
  obtain ⟨i, -, hi⟩ := List.mem_filterMap.mp hw
  have hm : w ∈ big := by first | exact List.mem_of_getElem? hi | exact List.getElem?_mem hi
  exact ⟨hm, good_of_word h1⟩
theorem goodIn_app {big a b : List Cond} (ha : GoodIn big a) (hb : GoodIn big b) : GoodIn big (a ++ b) := fun w h => (List.mem_append.mp h).elim (ha w) (hb w)
theorem goodIn_ca {big a b : List Cond} {c : Cond} (ha : GoodIn big (c :: a)) (hb : GoodIn big b) : GoodIn big (c :: (a ++ b)) := fun w h => (List.mem_cons.mp h).elim (fun e => ha w (List.mem_cons.mpr (Or.inl e))) (fun h => (List.mem_append.mp h).elim (fun h => ha w (List.mem_cons.mpr (Or.inr h))) (hb w))
theorem goodIn_sub {big ws : List Cond} (hm : ∀ w ∈ ws, w ∈ big) (h : ws.all goodWord = true) : GoodIn big ws := fun w hw => ⟨hm w hw, good_of_word (List.all_eq_true.mp h w hw)⟩
/-! ===== END ===== -/

/-! ===== BEGIN printed: names, fields, word lists, decode rows ===== -/
def RX0 : String := "RulePrices$Book"
def TX0 : u_T := fun k => match k with
  | 0 => ("RulePrices$Book", "things", "I", false)
  | 1 => ("RulePrices$Book", "rules", "I", false)
  | 2 => ("RulePrices$Book", "worths", "[I", true)
  | 3 => ("RulePrices$Book", "mosts", "[I", true)
  | 4 => ("RulePrices$Book", "kinds", "[I", true)
  | 5 => ("RulePrices$Book", "lefts", "[I", true)
  | 6 => ("RulePrices$Book", "rights", "[I", true)
  | 7 => ("RulePrices$Book", "limits", "[I", true)
  | 8 => ("RulePrices$Book", "ons", "[Z", true)
  | _ => ("RulePrices$Book", "factors", "[I", true)
def tyX0 : Nat → FieldType := fun k => match k with
  | 0 => .int
  | 1 => .int
  | 2 => .array .int
  | 3 => .array .int
  | 4 => .array .int
  | 5 => .array .int
  | 6 => .array .int
  | 7 => .array .int
  | 8 => .array .boolean
  | _ => .array .int
abbrev wsX00 : List Cond := u_ws RX0 TX0 10
theorem nmX0 : ∀ a, a < 10 → ∀ b, b < 10 → a ≠ b → (TX0 a).2.1 ≠ (TX0 b).2.1 := by decide +kernel
theorem tyX0_ok : ∀ k, k < 10 → parseFieldDescriptor (TX0 k).2.2.1 = some (tyX0 k) := by decide +kernel
abbrev cX0_init : ByteArray := prog_2_method_1_code
def yX0_init : MethodName := ⟨RX0, "<init>", "()V"⟩
abbrev cX0_addThing : ByteArray := prog_2_method_2_code
def yX0_addThing : MethodName := ⟨RX0, "addThing", "(II)I"⟩
abbrev cX0_addRule : ByteArray := prog_2_method_3_code
def yX0_addRule : MethodName := ⟨RX0, "addRule", "(II)I"⟩
abbrev cX0_pair : ByteArray := prog_2_method_4_code
def yX0_pair : MethodName := ⟨RX0, "pair", "(III)V"⟩
abbrev cX0_rulesOn : ByteArray := prog_2_method_5_code
def yX0_rulesOn : MethodName := ⟨RX0, "rulesOn", "()I"⟩
abbrev cX0_countsForShares : ByteArray := prog_2_method_6_code
def yX0_countsForShares : MethodName := ⟨RX0, "countsForShares", "(I)Z"⟩
def RX1 : String := "RulePrices$Corners"
def TX1 : u_T := fun k => match k with
  | 0 => ("RulePrices$Corners", "size", "I", false)
  | 1 => ("RulePrices$Corners", "tops", "[J", true)
  | 2 => ("RulePrices$Corners", "belows", "[J", true)
  | 3 => ("RulePrices$Corners", "slopes", "[J", true)
  | 4 => ("RulePrices$Corners", "cells", "[J", true)
  | _ => ("RulePrices$Corners", "dues", "[J", true)
def tyX1 : Nat → FieldType := fun k => match k with
  | 0 => .int
  | 1 => .array .long
  | 2 => .array .long
  | 3 => .array .long
  | 4 => .array .long
  | _ => .array .long
abbrev wsX10 : List Cond := u_ws RX1 TX1 6
theorem nmX1 : ∀ a, a < 6 → ∀ b, b < 6 → a ≠ b → (TX1 a).2.1 ≠ (TX1 b).2.1 := by decide +kernel
theorem tyX1_ok : ∀ k, k < 6 → parseFieldDescriptor (TX1 k).2.2.1 = some (tyX1 k) := by decide +kernel
abbrev cX1_init : ByteArray := prog_3_method_1_code
def yX1_init : MethodName := ⟨RX1, "<init>", "()V"⟩
abbrev cX1_find : ByteArray := prog_3_method_2_code
def yX1_find : MethodName := ⟨RX1, "find", "(LRulePrices$Book;)V"⟩
abbrev cX1_allCount : ByteArray := prog_3_method_3_code
def yX1_allCount : MethodName := ⟨RX1, "allCount", "(LRulePrices$Book;I)Z"⟩
abbrev cX1_has : ByteArray := prog_3_method_4_code
def yX1_has : MethodName := ⟨RX1, "has", "(II)Z"⟩
abbrev cX1_writeEquations : ByteArray := prog_3_method_5_code
def yX1_writeEquations : MethodName := ⟨RX1, "writeEquations", "(LRulePrices$Book;II)V"⟩
abbrev cX1_tryCorner : ByteArray := prog_3_method_6_code
def yX1_tryCorner : MethodName := ⟨RX1, "tryCorner", "(LRulePrices$Book;II)V"⟩
abbrev cX1_writePrices : ByteArray := prog_3_method_7_code
def yX1_writePrices : MethodName := ⟨RX1, "writePrices", "(IIJ)Z"⟩
abbrev cX1_swapDues : ByteArray := prog_3_method_8_code
def yX1_swapDues : MethodName := ⟨RX1, "swapDues", "(II)V"⟩
abbrev cX1_determinant : ByteArray := prog_3_method_9_code
def yX1_determinant : MethodName := ⟨RX1, "determinant", "([JIII)J"⟩
abbrev cX1_boundAt : ByteArray := prog_3_method_10_code
def yX1_boundAt : MethodName := ⟨RX1, "boundAt", "(LRulePrices$Book;I)J"⟩
abbrev cX1_slope : ByteArray := prog_3_method_11_code
def yX1_slope : MethodName := ⟨RX1, "slope", "(II)J"⟩
abbrev cX1_leastBound : ByteArray := prog_3_method_12_code
def yX1_leastBound : MethodName := ⟨RX1, "leastBound", "()I"⟩
abbrev cX1_leastBoundFlattest : ByteArray := prog_3_method_13_code
def yX1_leastBoundFlattest : MethodName := ⟨RX1, "leastBoundFlattest", "(I)I"⟩
abbrev cX1_reach : ByteArray := prog_3_method_14_code
def yX1_reach : MethodName := ⟨RX1, "reach", "(II)I"⟩
abbrev cX1_boundAbove : ByteArray := prog_3_method_15_code
def yX1_boundAbove : MethodName := ⟨RX1, "boundAbove", "(II)J"⟩
abbrev cX1_slopeBelow : ByteArray := prog_3_method_16_code
def yX1_slopeBelow : MethodName := ⟨RX1, "slopeBelow", "(III)J"⟩
def RX2 : String := "RulePrices$Survey"
def TX2 : u_T := fun k => match k with
  | 0 => ("RulePrices$Survey", "things", "I", false)
  | 1 => ("RulePrices$Survey", "all", "I", false)
  | 2 => ("RulePrices$Survey", "fitting", "I", false)
  | 3 => ("RulePrices$Survey", "best", "I", false)
  | 4 => ("RulePrices$Survey", "greatest", "I", false)
  | 5 => ("RulePrices$Survey", "firstBest", "[I", true)
  | 6 => ("RulePrices$Survey", "isFast", "[Z", true)
  | 7 => ("RulePrices$Survey", "withCount", "[I", true)
  | _ => ("RulePrices$Survey", "forbiddenBy", "[I", true)
def tyX2 : Nat → FieldType := fun k => match k with
  | 0 => .int
  | 1 => .int
  | 2 => .int
  | 3 => .int
  | 4 => .int
  | 5 => .array .int
  | 6 => .array .boolean
  | 7 => .array .int
  | _ => .array .int
abbrev wsX20 : List Cond := u_ws RX2 TX2 9
theorem nmX2 : ∀ a, a < 9 → ∀ b, b < 9 → a ≠ b → (TX2 a).2.1 ≠ (TX2 b).2.1 := by decide +kernel
theorem tyX2_ok : ∀ k, k < 9 → parseFieldDescriptor (TX2 k).2.2.1 = some (tyX2 k) := by decide +kernel
abbrev cX2_init : ByteArray := prog_4_method_1_code
def yX2_init : MethodName := ⟨RX2, "<init>", "()V"⟩
abbrev cX2_lookAtAll : ByteArray := prog_4_method_2_code
def yX2_lookAtAll : MethodName := ⟨RX2, "lookAtAll", "(LRulePrices$Walk;I)V"⟩
abbrev cX2_lookAt : ByteArray := prog_4_method_3_code
def yX2_lookAt : MethodName := ⟨RX2, "lookAt", "(LRulePrices$Walk;)V"⟩
abbrev cX2_noteFitting : ByteArray := prog_4_method_4_code
def yX2_noteFitting : MethodName := ⟨RX2, "noteFitting", "([II)V"⟩
abbrev cX2_noteBetter : ByteArray := prog_4_method_5_code
def yX2_noteBetter : MethodName := ⟨RX2, "noteBetter", "([II)V"⟩
abbrev cX2_noteEqual : ByteArray := prog_4_method_6_code
def yX2_noteEqual : MethodName := ⟨RX2, "noteEqual", "([I)V"⟩
abbrev cX2_greatestWith : ByteArray := prog_4_method_7_code
def yX2_greatestWith : MethodName := ⟨RX2, "greatestWith", "(II)I"⟩
abbrev cX2_gainWithout : ByteArray := prog_4_method_8_code
def yX2_gainWithout : MethodName := ⟨RX2, "gainWithout", "(I)I"⟩
abbrev cX2_rulesAhead : ByteArray := prog_4_method_9_code
def yX2_rulesAhead : MethodName := ⟨RX2, "rulesAhead", "(II)I"⟩
abbrev cX2_spanBottom : ByteArray := prog_4_method_10_code
def yX2_spanBottom : MethodName := ⟨RX2, "spanBottom", "(II)I"⟩
abbrev cX2_spanTop : ByteArray := prog_4_method_11_code
def yX2_spanTop : MethodName := ⟨RX2, "spanTop", "(II)I"⟩
abbrev cX2_restWith : ByteArray := prog_4_method_12_code
def yX2_restWith : MethodName := ⟨RX2, "restWith", "(III)I"⟩
def RX3 : String := "RulePrices$Walk"
def TX3 : u_T := fun k => match k with
  | 0 => ("RulePrices$Walk", "book", "LRulePrices$Book;", true)
  | 1 => ("RulePrices$Walk", "limits", "[I", true)
  | 2 => ("RulePrices$Walk", "mosts", "[I", true)
  | 3 => ("RulePrices$Walk", "loads", "[I", true)
  | 4 => ("RulePrices$Walk", "counts", "[I", true)
  | _ => ("RulePrices$Walk", "sum", "I", false)
def tyX3 : Nat → FieldType := fun k => match k with
  | 0 => .object "RulePrices$Book"
  | 1 => .array .int
  | 2 => .array .int
  | 3 => .array .int
  | 4 => .array .int
  | _ => .int
abbrev wsX30 : List Cond := u_ws RX3 TX3 6
theorem nmX3 : ∀ a, a < 6 → ∀ b, b < 6 → a ≠ b → (TX3 a).2.1 ≠ (TX3 b).2.1 := by decide +kernel
theorem tyX3_ok : ∀ k, k < 6 → parseFieldDescriptor (TX3 k).2.2.1 = some (tyX3 k) := by decide +kernel
abbrev cX3_init : ByteArray := prog_5_method_1_code
def yX3_init : MethodName := ⟨RX3, "<init>", "(LRulePrices$Book;)V"⟩
abbrev cX3_begin : ByteArray := prog_5_method_2_code
def yX3_begin : MethodName := ⟨RX3, "begin", "()V"⟩
abbrev cX3_loosen : ByteArray := prog_5_method_3_code
def yX3_loosen : MethodName := ⟨RX3, "loosen", "(II)V"⟩
abbrev cX3_allowOneMore : ByteArray := prog_5_method_4_code
def yX3_allowOneMore : MethodName := ⟨RX3, "allowOneMore", "(I)V"⟩
abbrev cX3_goTo : ByteArray := prog_5_method_5_code
def yX3_goTo : MethodName := ⟨RX3, "goTo", "([I)V"⟩
abbrev cX3_plans : ByteArray := prog_5_method_6_code
def yX3_plans : MethodName := ⟨RX3, "plans", "()I"⟩
abbrev cX3_step : ByteArray := prog_5_method_7_code
def yX3_step : MethodName := ⟨RX3, "step", "()V"⟩
abbrev cX3_shift : ByteArray := prog_5_method_8_code
def yX3_shift : MethodName := ⟨RX3, "shift", "(II)V"⟩
abbrev cX3_firstOver : ByteArray := prog_5_method_9_code
def yX3_firstOver : MethodName := ⟨RX3, "firstOver", "(I)I"⟩
abbrev cX3_load : ByteArray := prog_5_method_10_code
def yX3_load : MethodName := ⟨RX3, "load", "(I)I"⟩
abbrev cX3_greatestFitting : ByteArray := prog_5_method_11_code
def yX3_greatestFitting : MethodName := ⟨RX3, "greatestFitting", "()I"⟩
def RX4 : String := "RulePrices"
def TX4 : u_T := fun k => match k with
  | 0 => ("RulePrices", "book", "LRulePrices$Book;", true)
  | 1 => ("RulePrices", "walk", "LRulePrices$Walk;", true)
  | 2 => ("RulePrices", "survey", "LRulePrices$Survey;", true)
  | 3 => ("RulePrices", "corners", "LRulePrices$Corners;", true)
  | 4 => ("RulePrices", "putCounts", "[I", true)
  | 5 => ("RulePrices", "surveyIsFresh", "Z", false)
  | _ => ("RulePrices", "cornersAreFresh", "Z", false)
def tyX4 : Nat → FieldType := fun k => match k with
  | 0 => .object "RulePrices$Book"
  | 1 => .object "RulePrices$Walk"
  | 2 => .object "RulePrices$Survey"
  | 3 => .object "RulePrices$Corners"
  | 4 => .array .int
  | 5 => .boolean
  | _ => .boolean
abbrev wsX40 : List Cond := u_ws RX4 TX4 7
theorem nmX4 : ∀ a, a < 7 → ∀ b, b < 7 → a ≠ b → (TX4 a).2.1 ≠ (TX4 b).2.1 := by decide +kernel
theorem tyX4_ok : ∀ k, k < 7 → parseFieldDescriptor (TX4 k).2.2.1 = some (tyX4 k) := by decide +kernel
abbrev cX4_init : ByteArray := prog_1_method_1_code
def yX4_init : MethodName := ⟨RX4, "<init>", "()V"⟩
abbrev cX4_thing : ByteArray := prog_1_method_2_code
def yX4_thing : MethodName := ⟨RX4, "thing", "(II)I"⟩
abbrev cX4_rule : ByteArray := prog_1_method_3_code
def yX4_rule : MethodName := ⟨RX4, "rule", "(IIII)I"⟩
abbrev cX4_amount : ByteArray := prog_1_method_4_code
def yX4_amount : MethodName := ⟨RX4, "amount", "(III)I"⟩
abbrev cX4_on : ByteArray := prog_1_method_5_code
def yX4_on : MethodName := ⟨RX4, "on", "(IZ)I"⟩
abbrev cX4_set : ByteArray := prog_1_method_6_code
def yX4_set : MethodName := ⟨RX4, "set", "(III)I"⟩
abbrev cX4_value : ByteArray := prog_1_method_7_code
def yX4_value : MethodName := ⟨RX4, "value", "()I"⟩
abbrev cX4_counted : ByteArray := prog_1_method_8_code
def yX4_counted : MethodName := ⟨RX4, "counted", "(I)I"⟩
abbrev cX4_first : ByteArray := prog_1_method_9_code
def yX4_first : MethodName := ⟨RX4, "first", "(I)I"⟩
abbrev cX4_fast : ByteArray := prog_1_method_10_code
def yX4_fast : MethodName := ⟨RX4, "fast", "(I)I"⟩
abbrev cX4_price : ByteArray := prog_1_method_11_code
def yX4_price : MethodName := ⟨RX4, "price", "(II)I"⟩
abbrev cX4_weight : ByteArray := prog_1_method_12_code
def yX4_weight : MethodName := ⟨RX4, "weight", "(I)I"⟩
abbrev cX4_rank : ByteArray := prog_1_method_13_code
def yX4_rank : MethodName := ⟨RX4, "rank", "(I)I"⟩
abbrev cX4_more : ByteArray := prog_1_method_14_code
def yX4_more : MethodName := ⟨RX4, "more", "(I)I"⟩
abbrev cX4_must : ByteArray := prog_1_method_15_code
def yX4_must : MethodName := ⟨RX4, "must", "(II)I"⟩
abbrev cX4_span : ByteArray := prog_1_method_16_code
def yX4_span : MethodName := ⟨RX4, "span", "(IZ)I"⟩
abbrev cX4_put : ByteArray := prog_1_method_17_code
def yX4_put : MethodName := ⟨RX4, "put", "(II)I"⟩
abbrev cX4_worth : ByteArray := prog_1_method_18_code
def yX4_worth : MethodName := ⟨RX4, "worth", "()I"⟩
abbrev cX4_broken : ByteArray := prog_1_method_19_code
def yX4_broken : MethodName := ⟨RX4, "broken", "()I"⟩
abbrev cX4_share : ByteArray := prog_1_method_20_code
def yX4_share : MethodName := ⟨RX4, "share", "(Z)J"⟩
abbrev cX4_sharePrice : ByteArray := prog_1_method_21_code
def yX4_sharePrice : MethodName := ⟨RX4, "sharePrice", "(IZ)J"⟩
abbrev cX4_holds : ByteArray := prog_1_method_22_code
def yX4_holds : MethodName := ⟨RX4, "holds", "(I)I"⟩
abbrev cX4_gap : ByteArray := prog_1_method_23_code
def yX4_gap : MethodName := ⟨RX4, "gap", "(Z)J"⟩
abbrev cX4_told : ByteArray := prog_1_method_24_code
def yX4_told : MethodName := ⟨RX4, "told", "(I)I"⟩
abbrev cX4_toldCount : ByteArray := prog_1_method_25_code
def yX4_toldCount : MethodName := ⟨RX4, "toldCount", "(I)I"⟩
abbrev cX4_isThing : ByteArray := prog_1_method_26_code
def yX4_isThing : MethodName := ⟨RX4, "isThing", "(I)Z"⟩
abbrev cX4_isRule : ByteArray := prog_1_method_27_code
def yX4_isRule : MethodName := ⟨RX4, "isRule", "(I)Z"⟩
abbrev cX4_isWorth : ByteArray := prog_1_method_28_code
def yX4_isWorth : MethodName := ⟨RX4, "isWorth", "(I)Z"⟩
abbrev cX4_isCount : ByteArray := prog_1_method_29_code
def yX4_isCount : MethodName := ⟨RX4, "isCount", "(I)Z"⟩
abbrev cX4_isLimit : ByteArray := prog_1_method_30_code
def yX4_isLimit : MethodName := ⟨RX4, "isLimit", "(IJ)Z"⟩
abbrev cX4_replace : ByteArray := prog_1_method_31_code
def yX4_replace : MethodName := ⟨RX4, "replace", "([III)I"⟩
abbrev cX4_markChanged : ByteArray := prog_1_method_32_code
def yX4_markChanged : MethodName := ⟨RX4, "markChanged", "()V"⟩
abbrev cX4_freshSurvey : ByteArray := prog_1_method_33_code
def yX4_freshSurvey : MethodName := ⟨RX4, "freshSurvey", "()LRulePrices$Survey;"⟩
abbrev cX4_freshCorners : ByteArray := prog_1_method_34_code
def yX4_freshCorners : MethodName := ⟨RX4, "freshCorners", "()LRulePrices$Corners;"⟩
abbrev cX4_inLowestTerms : ByteArray := prog_1_method_35_code
def yX4_inLowestTerms : MethodName := ⟨RX4, "inLowestTerms", "(JJZ)J"⟩
abbrev cX4_commonDivisor : ByteArray := prog_1_method_36_code
def yX4_commonDivisor : MethodName := ⟨RX4, "commonDivisor", "(JJ)J"⟩
def RX5 : String := "RulePricesModel"
def TX5 : u_T := fun k => match k with
  | 0 => ("RulePricesModel", "things", "I", false)
  | 1 => ("RulePricesModel", "worth", "[I", true)
  | 2 => ("RulePricesModel", "most", "[I", true)
  | 3 => ("RulePricesModel", "rules", "I", false)
  | 4 => ("RulePricesModel", "kind", "[I", true)
  | 5 => ("RulePricesModel", "one", "[I", true)
  | 6 => ("RulePricesModel", "other", "[I", true)
  | 7 => ("RulePricesModel", "limit", "[I", true)
  | 8 => ("RulePricesModel", "isOn", "[Z", true)
  | 9 => ("RulePricesModel", "amount", "[I", true)
  | 10 => ("RulePricesModel", "told", "[I", true)
  | 11 => ("RulePricesModel", "now", "[I", true)
  | 12 => ("RulePricesModel", "best", "I", false)
  | 13 => ("RulePricesModel", "bestMany", "I", false)
  | 14 => ("RulePricesModel", "first", "[I", true)
  | 15 => ("RulePricesModel", "isSame", "[Z", true)
  | 16 => ("RulePricesModel", "fitMany", "I", false)
  | 17 => ("RulePricesModel", "allMany", "I", false)
  | 18 => ("RulePricesModel", "weights", "[I", true)
  | 19 => ("RulePricesModel", "rows", "I", false)
  | 20 => ("RulePricesModel", "row", "[I", true)
  | 21 => ("RulePricesModel", "bound", "[I", true)
  | 22 => ("RulePricesModel", "ruleOf", "[I", true)
  | 23 => ("RulePricesModel", "chosen", "[I", true)
  | 24 => ("RulePricesModel", "work", "[J", true)
  | 25 => ("RulePricesModel", "sum", "J", false)
  | 26 => ("RulePricesModel", "price", "J", false)
  | 27 => ("RulePricesModel", "below", "J", false)
  | 28 => ("RulePricesModel", "shareSum", "J", false)
  | 29 => ("RulePricesModel", "sharePrice", "J", false)
  | _ => ("RulePricesModel", "shareBelow", "J", false)
def tyX5 : Nat → FieldType := fun k => match k with
  | 0 => .int
  | 1 => .array .int
  | 2 => .array .int
  | 3 => .int
  | 4 => .array .int
  | 5 => .array .int
  | 6 => .array .int
  | 7 => .array .int
  | 8 => .array .boolean
  | 9 => .array .int
  | 10 => .array .int
  | 11 => .array .int
  | 12 => .int
  | 13 => .int
  | 14 => .array .int
  | 15 => .array .boolean
  | 16 => .int
  | 17 => .int
  | 18 => .array .int
  | 19 => .int
  | 20 => .array .int
  | 21 => .array .int
  | 22 => .array .int
  | 23 => .array .int
  | 24 => .array .long
  | 25 => .long
  | 26 => .long
  | 27 => .long
  | 28 => .long
  | 29 => .long
  | _ => .long
abbrev wsX50 : List Cond := u_ws RX5 TX5 31
theorem nmX5 : ∀ a, a < 31 → ∀ b, b < 31 → a ≠ b → (TX5 a).2.1 ≠ (TX5 b).2.1 := by decide +kernel
theorem tyX5_ok : ∀ k, k < 31 → parseFieldDescriptor (TX5 k).2.2.1 = some (tyX5 k) := by decide +kernel
abbrev cX5_init : ByteArray := prog_7_method_1_code
def yX5_init : MethodName := ⟨RX5, "<init>", "()V"⟩
abbrev cX5_in : ByteArray := prog_7_method_2_code
def yX5_in : MethodName := ⟨RX5, "in", "(JJJ)Z"⟩
abbrev cX5_isThing : ByteArray := prog_7_method_3_code
def yX5_isThing : MethodName := ⟨RX5, "isThing", "(I)Z"⟩
abbrev cX5_isRule : ByteArray := prog_7_method_4_code
def yX5_isRule : MethodName := ⟨RX5, "isRule", "(I)Z"⟩
abbrev cX5_isLimit : ByteArray := prog_7_method_5_code
def yX5_isLimit : MethodName := ⟨RX5, "isLimit", "(IJ)Z"⟩
abbrev cX5_thing : ByteArray := prog_7_method_6_code
def yX5_thing : MethodName := ⟨RX5, "thing", "(II)I"⟩
abbrev cX5_rule : ByteArray := prog_7_method_7_code
def yX5_rule : MethodName := ⟨RX5, "rule", "(IIII)I"⟩
abbrev cX5_amount : ByteArray := prog_7_method_8_code
def yX5_amount : MethodName := ⟨RX5, "amount", "(III)I"⟩
abbrev cX5_on : ByteArray := prog_7_method_9_code
def yX5_on : MethodName := ⟨RX5, "on", "(IZ)I"⟩
abbrev cX5_set : ByteArray := prog_7_method_10_code
def yX5_set : MethodName := ⟨RX5, "set", "(III)I"⟩
abbrev cX5_isAs : ByteArray := prog_7_method_11_code
def yX5_isAs : MethodName := ⟨RX5, "isAs", "(I[I)Z"⟩
abbrev cX5_fits : ByteArray := prog_7_method_12_code
def yX5_fits : MethodName := ⟨RX5, "fits", "([I)Z"⟩
abbrev cX5_valueOf : ByteArray := prog_7_method_13_code
def yX5_valueOf : MethodName := ⟨RX5, "valueOf", "([I)I"⟩
abbrev cX5_look : ByteArray := prog_7_method_14_code
def yX5_look : MethodName := ⟨RX5, "look", "(II)V"⟩
abbrev cX5_take : ByteArray := prog_7_method_15_code
def yX5_take : MethodName := ⟨RX5, "take", "()V"⟩
abbrev cX5_value : ByteArray := prog_7_method_16_code
def yX5_value : MethodName := ⟨RX5, "value", "()I"⟩
abbrev cX5_counted : ByteArray := prog_7_method_17_code
def yX5_counted : MethodName := ⟨RX5, "counted", "(I)I"⟩
abbrev cX5_first : ByteArray := prog_7_method_18_code
def yX5_first : MethodName := ⟨RX5, "first", "(I)I"⟩
abbrev cX5_fast : ByteArray := prog_7_method_19_code
def yX5_fast : MethodName := ⟨RX5, "fast", "(I)I"⟩
abbrev cX5_price : ByteArray := prog_7_method_20_code
def yX5_price : MethodName := ⟨RX5, "price", "(II)I"⟩
abbrev cX5_weight : ByteArray := prog_7_method_21_code
def yX5_weight : MethodName := ⟨RX5, "weight", "(I)I"⟩
abbrev cX5_rank : ByteArray := prog_7_method_22_code
def yX5_rank : MethodName := ⟨RX5, "rank", "(I)I"⟩
abbrev cX5_more : ByteArray := prog_7_method_23_code
def yX5_more : MethodName := ⟨RX5, "more", "(I)I"⟩
abbrev cX5_must : ByteArray := prog_7_method_24_code
def yX5_must : MethodName := ⟨RX5, "must", "(II)I"⟩
abbrev cX5_floor : ByteArray := prog_7_method_25_code
def yX5_floor : MethodName := ⟨RX5, "floor", "(II)I"⟩
abbrev cX5_span : ByteArray := prog_7_method_26_code
def yX5_span : MethodName := ⟨RX5, "span", "(IZ)I"⟩
abbrev cX5_put : ByteArray := prog_7_method_27_code
def yX5_put : MethodName := ⟨RX5, "put", "(II)I"⟩
abbrev cX5_worth : ByteArray := prog_7_method_28_code
def yX5_worth : MethodName := ⟨RX5, "worth", "()I"⟩
abbrev cX5_broken : ByteArray := prog_7_method_29_code
def yX5_broken : MethodName := ⟨RX5, "broken", "()I"⟩
abbrev cX5_addRow : ByteArray := prog_7_method_30_code
def yX5_addRow : MethodName := ⟨RX5, "addRow", "(II)V"⟩
abbrev cX5_rowsNow : ByteArray := prog_7_method_31_code
def yX5_rowsNow : MethodName := ⟨RX5, "rowsNow", "()V"⟩
abbrev cX5_determinant : ByteArray := prog_7_method_32_code
def yX5_determinant : MethodName := ⟨RX5, "determinant", "(I)J"⟩
abbrev cX5_isPriced : ByteArray := prog_7_method_33_code
def yX5_isPriced : MethodName := ⟨RX5, "isPriced", "(II)Z"⟩
abbrev cX5_shares : ByteArray := prog_7_method_34_code
def yX5_shares : MethodName := ⟨RX5, "shares", "(I)V"⟩
abbrev cX5_part : ByteArray := prog_7_method_35_code
def yX5_part : MethodName := ⟨RX5, "part", "(JJZ)J"⟩
abbrev cX5_share : ByteArray := prog_7_method_36_code
def yX5_share : MethodName := ⟨RX5, "share", "(Z)J"⟩
abbrev cX5_isPrice : ByteArray := prog_7_method_37_code
def yX5_isPrice : MethodName := ⟨RX5, "isPrice", "(I)Z"⟩
abbrev cX5_sharePrice : ByteArray := prog_7_method_38_code
def yX5_sharePrice : MethodName := ⟨RX5, "sharePrice", "(IZ)J"⟩
abbrev cX5_holds : ByteArray := prog_7_method_39_code
def yX5_holds : MethodName := ⟨RX5, "holds", "(I)I"⟩
abbrev cX5_gap : ByteArray := prog_7_method_40_code
def yX5_gap : MethodName := ⟨RX5, "gap", "(Z)J"⟩
abbrev cX5_told : ByteArray := prog_7_method_41_code
def yX5_told : MethodName := ⟨RX5, "told", "(I)I"⟩
def RJ6 : String := "java/lang/Integer"
def TJ6 : u_T := fun k => match k with
  | _ => ("", "", "", false)
def tyJ6 : Nat → FieldType := fun k => match k with
  | _ => .int
abbrev wsJ60 : List Cond := u_ws RJ6 TJ6 0
theorem nmJ6 : ∀ a, a < 0 → ∀ b, b < 0 → a ≠ b → (TJ6 a).2.1 ≠ (TJ6 b).2.1 := by decide +kernel
theorem tyJ6_ok : ∀ k, k < 0 → parseFieldDescriptor (TJ6 k).2.2.1 = some (tyJ6 k) := by decide +kernel
abbrev cJ6_bitCount_0f7a4 : ByteArray := prog_8_method_49_code
def yJ6_bitCount_0f7a4 : MethodName := ⟨RJ6, "bitCount", "(I)I"⟩
def RJ9 : String := "java/lang/Math"
def TJ9 : u_T := fun k => match k with
  | _ => ("", "", "", false)
def tyJ9 : Nat → FieldType := fun k => match k with
  | _ => .int
abbrev wsJ90 : List Cond := u_ws RJ9 TJ9 0
theorem nmJ9 : ∀ a, a < 0 → ∀ b, b < 0 → a ≠ b → (TJ9 a).2.1 ≠ (TJ9 b).2.1 := by decide +kernel
theorem tyJ9_ok : ∀ k, k < 0 → parseFieldDescriptor (TJ9 k).2.2.1 = some (tyJ9 k) := by decide +kernel
abbrev cJ9_floorDiv_7cf53 : ByteArray := prog_9_method_47_code
def yJ9_floorDiv_7cf53 : MethodName := ⟨RJ9, "floorDiv", "(II)I"⟩
abbrev cJ9_abs_067f4 : ByteArray := prog_9_method_61_code
def yJ9_abs_067f4 : MethodName := ⟨RJ9, "abs", "(J)J"⟩
abbrev cJ9_max_7cf53 : ByteArray := prog_9_method_65_code
def yJ9_max_7cf53 : MethodName := ⟨RJ9, "max", "(II)I"⟩
abbrev cJ9_max_f86c9 : ByteArray := prog_9_method_66_code
def yJ9_max_f86c9 : MethodName := ⟨RJ9, "max", "(JJ)J"⟩
abbrev cJ9_min_7cf53 : ByteArray := prog_9_method_69_code
def yJ9_min_7cf53 : MethodName := ⟨RJ9, "min", "(II)I"⟩
abbrev cJ9_min_f86c9 : ByteArray := prog_9_method_70_code
def yJ9_min_f86c9 : MethodName := ⟨RJ9, "min", "(JJ)J"⟩
def RJ7 : String := "java/util/Arrays"
def TJ7 : u_T := fun k => match k with
  | _ => ("", "", "", false)
def tyJ7 : Nat → FieldType := fun k => match k with
  | _ => .int
abbrev wsJ70 : List Cond := u_ws RJ7 TJ7 0
theorem nmJ7 : ∀ a, a < 0 → ∀ b, b < 0 → a ≠ b → (TJ7 a).2.1 ≠ (TJ7 b).2.1 := by decide +kernel
theorem tyJ7_ok : ∀ k, k < 0 → parseFieldDescriptor (TJ7 k).2.2.1 = some (tyJ7 k) := by decide +kernel
abbrev cJ7_fill_53178 : ByteArray := prog_10_method_103_code
def yJ7_fill_53178 : MethodName := ⟨RJ7, "fill", "([II)V"⟩
def RL : String := "RulePricesLaw"
abbrev cL_law : ByteArray := code
def yL_law : MethodName := ⟨RL, "law", "([I)Z"⟩
abbrev vwCl : List vw_C := [(RX0, TX0, 10), (RX1, TX1, 6), (RX2, TX2, 9), (RX3, TX3, 6), (RX4, TX4, 7), (RX5, TX5, 31)]
end
section
/-! the methods as data, what fields, constants and calls name; the shape of the cells -/
abbrev jj_M : Type := (MethodName × ByteArray) × (Nat × Option FieldType × Nat × Nat)
def jj_R : Nat → String
  | 0 => RX0
  | 1 => RX1
  | 2 => RX2
  | 3 => RX3
  | 4 => RX4
  | 5 => RX5
  | 6 => RJ6
  | 7 => RJ7
  | 8 => RL
  | 9 => RJ9
  | _ => ""
def mX0_addThing : jj_M := ((yX0_addThing, cX0_addThing), (4, (some .int), 0, 2))
def mX0_addRule : jj_M := ((yX0_addRule, cX0_addRule), (4, (some .int), 0, 2))
def mX0_pair : jj_M := ((yX0_pair, cX0_pair), (4, none, 0, 3))
def mX0_rulesOn : jj_M := ((yX0_rulesOn, cX0_rulesOn), (3, (some .int), 0, 0))
def mX0_countsForShares : jj_M := ((yX0_countsForShares, cX0_countsForShares), (2, (some .boolean), 0, 1))
def mX1_find : jj_M := ((yX1_find, cX1_find), (4, none, 1, 1))
def mX1_allCount : jj_M := ((yX1_allCount, cX1_allCount), (3, (some .boolean), 1, 2))
def mX1_has : jj_M := ((yX1_has, cX1_has), (2, (some .boolean), 1, 2))
def mX1_writeEquations : jj_M := ((yX1_writeEquations, cX1_writeEquations), (8, none, 1, 3))
def mX1_tryCorner : jj_M := ((yX1_tryCorner, cX1_tryCorner), (7, none, 1, 3))
def mX1_writePrices : jj_M := ((yX1_writePrices, cX1_writePrices), (9, (some .boolean), 1, 3))
def mX1_swapDues : jj_M := ((yX1_swapDues, cX1_swapDues), (7, none, 1, 2))
def mX1_determinant : jj_M := ((yX1_determinant, cX1_determinant), (11, (some .long), 1, 4))
def mX1_boundAt : jj_M := ((yX1_boundAt, cX1_boundAt), (9, (some .long), 1, 2))
def mX1_slope : jj_M := ((yX1_slope, cX1_slope), (3, (some .long), 1, 2))
def mX1_leastBound : jj_M := ((yX1_leastBound, cX1_leastBound), (3, (some .int), 1, 0))
def mX1_leastBoundFlattest : jj_M := ((yX1_leastBoundFlattest, cX1_leastBoundFlattest), (6, (some .int), 1, 1))
def mX1_reach : jj_M := ((yX1_reach, cX1_reach), (8, (some .int), 1, 2))
def mX1_boundAbove : jj_M := ((yX1_boundAbove, cX1_boundAbove), (3, (some .long), 1, 2))
def mX1_slopeBelow : jj_M := ((yX1_slopeBelow, cX1_slopeBelow), (4, (some .long), 1, 3))
def mX2_lookAtAll : jj_M := ((yX2_lookAtAll, cX2_lookAtAll), (4, none, 2, 2))
def mX2_lookAt : jj_M := ((yX2_lookAt, cX2_lookAt), (3, none, 2, 1))
def mX2_noteFitting : jj_M := ((yX2_noteFitting, cX2_noteFitting), (5, none, 2, 2))
def mX2_noteBetter : jj_M := ((yX2_noteBetter, cX2_noteBetter), (4, none, 2, 2))
def mX2_noteEqual : jj_M := ((yX2_noteEqual, cX2_noteEqual), (3, none, 2, 1))
def mX2_greatestWith : jj_M := ((yX2_greatestWith, cX2_greatestWith), (3, (some .int), 2, 2))
def mX2_gainWithout : jj_M := ((yX2_gainWithout, cX2_gainWithout), (2, (some .int), 2, 1))
def mX2_rulesAhead : jj_M := ((yX2_rulesAhead, cX2_rulesAhead), (7, (some .int), 2, 2))
def mX2_spanBottom : jj_M := ((yX2_spanBottom, cX2_spanBottom), (7, (some .int), 2, 2))
def mX2_spanTop : jj_M := ((yX2_spanTop, cX2_spanTop), (8, (some .int), 2, 2))
def mX2_restWith : jj_M := ((yX2_restWith, cX2_restWith), (4, (some .int), 2, 3))
def mX3_begin : jj_M := ((yX3_begin, cX3_begin), (2, none, 3, 0))
def mX3_loosen : jj_M := ((yX3_loosen, cX3_loosen), (3, none, 3, 2))
def mX3_allowOneMore : jj_M := ((yX3_allowOneMore, cX3_allowOneMore), (2, none, 3, 1))
def mX3_goTo : jj_M := ((yX3_goTo, cX3_goTo), (3, none, 3, 1))
def mX3_plans : jj_M := ((yX3_plans, cX3_plans), (3, (some .int), 3, 0))
def mX3_step : jj_M := ((yX3_step, cX3_step), (2, none, 3, 0))
def mX3_shift : jj_M := ((yX3_shift, cX3_shift), (4, none, 3, 2))
def mX3_firstOver : jj_M := ((yX3_firstOver, cX3_firstOver), (3, (some .int), 3, 1))
def mX3_load : jj_M := ((yX3_load, cX3_load), (2, (some .int), 3, 1))
def mX3_greatestFitting : jj_M := ((yX3_greatestFitting, cX3_greatestFitting), (3, (some .int), 3, 0))
def mX4_thing : jj_M := ((yX4_thing, cX4_thing), (3, (some .int), 4, 2))
def mX4_rule : jj_M := ((yX4_rule, cX4_rule), (6, (some .int), 4, 4))
def mX4_amount : jj_M := ((yX4_amount, cX4_amount), (4, (some .int), 4, 3))
def mX4_on : jj_M := ((yX4_on, cX4_on), (4, (some .int), 4, 2))
def mX4_set : jj_M := ((yX4_set, cX4_set), (4, (some .int), 4, 3))
def mX4_value : jj_M := ((yX4_value, cX4_value), (1, (some .int), 4, 0))
def mX4_counted : jj_M := ((yX4_counted, cX4_counted), (2, (some .int), 4, 1))
def mX4_first : jj_M := ((yX4_first, cX4_first), (2, (some .int), 4, 1))
def mX4_fast : jj_M := ((yX4_fast, cX4_fast), (2, (some .int), 4, 1))
def mX4_price : jj_M := ((yX4_price, cX4_price), (4, (some .int), 4, 2))
def mX4_weight : jj_M := ((yX4_weight, cX4_weight), (2, (some .int), 4, 1))
def mX4_rank : jj_M := ((yX4_rank, cX4_rank), (4, (some .int), 4, 1))
def mX4_more : jj_M := ((yX4_more, cX4_more), (3, (some .int), 4, 1))
def mX4_must : jj_M := ((yX4_must, cX4_must), (3, (some .int), 4, 2))
def mX4_span : jj_M := ((yX4_span, cX4_span), (4, (some .int), 4, 2))
def mX4_put : jj_M := ((yX4_put, cX4_put), (4, (some .int), 4, 2))
def mX4_worth : jj_M := ((yX4_worth, cX4_worth), (1, (some .int), 4, 0))
def mX4_broken : jj_M := ((yX4_broken, cX4_broken), (2, (some .int), 4, 0))
def mX4_share : jj_M := ((yX4_share, cX4_share), (4, (some .long), 4, 1))
def mX4_sharePrice : jj_M := ((yX4_sharePrice, cX4_sharePrice), (5, (some .long), 4, 2))
def mX4_holds : jj_M := ((yX4_holds, cX4_holds), (3, (some .int), 4, 1))
def mX4_gap : jj_M := ((yX4_gap, cX4_gap), (6, (some .long), 4, 1))
def mX4_told : jj_M := ((yX4_told, cX4_told), (3, (some .int), 4, 1))
def mX4_toldCount : jj_M := ((yX4_toldCount, cX4_toldCount), (2, (some .int), 4, 1))
def mX4_isThing : jj_M := ((yX4_isThing, cX4_isThing), (2, (some .boolean), 4, 1))
def mX4_isRule : jj_M := ((yX4_isRule, cX4_isRule), (2, (some .boolean), 4, 1))
def mX4_isWorth : jj_M := ((yX4_isWorth, cX4_isWorth), (1, (some .boolean), 4, 1))
def mX4_isCount : jj_M := ((yX4_isCount, cX4_isCount), (1, (some .boolean), 4, 1))
def mX4_isLimit : jj_M := ((yX4_isLimit, cX4_isLimit), (3, (some .boolean), 4, 2))
def mX4_replace : jj_M := ((yX4_replace, cX4_replace), (5, (some .int), 4, 3))
def mX4_markChanged : jj_M := ((yX4_markChanged, cX4_markChanged), (1, none, 4, 0))
def mX4_freshSurvey : jj_M := ((yX4_freshSurvey, cX4_freshSurvey), (1, (some (.object "RulePrices$Survey")), 4, 0))
def mX4_freshCorners : jj_M := ((yX4_freshCorners, cX4_freshCorners), (1, (some (.object "RulePrices$Corners")), 4, 0))
def mX4_inLowestTerms : jj_M := ((yX4_inLowestTerms, cX4_inLowestTerms), (7, (some .long), 4, 3))
def mX4_commonDivisor : jj_M := ((yX4_commonDivisor, cX4_commonDivisor), (7, (some .long), 4, 2))
def mX5_in : jj_M := ((yX5_in, cX5_in), (6, (some .boolean), 5, 3))
def mX5_isThing : jj_M := ((yX5_isThing, cX5_isThing), (2, (some .boolean), 5, 1))
def mX5_isRule : jj_M := ((yX5_isRule, cX5_isRule), (2, (some .boolean), 5, 1))
def mX5_isLimit : jj_M := ((yX5_isLimit, cX5_isLimit), (3, (some .boolean), 5, 2))
def mX5_thing : jj_M := ((yX5_thing, cX5_thing), (3, (some .int), 5, 2))
def mX5_rule : jj_M := ((yX5_rule, cX5_rule), (5, (some .int), 5, 4))
def mX5_amount : jj_M := ((yX5_amount, cX5_amount), (5, (some .int), 5, 3))
def mX5_on : jj_M := ((yX5_on, cX5_on), (4, (some .int), 5, 2))
def mX5_set : jj_M := ((yX5_set, cX5_set), (6, (some .int), 5, 3))
def mX5_isAs : jj_M := ((yX5_isAs, cX5_isAs), (5, (some .boolean), 5, 2))
def mX5_fits : jj_M := ((yX5_fits, cX5_fits), (3, (some .boolean), 5, 1))
def mX5_valueOf : jj_M := ((yX5_valueOf, cX5_valueOf), (4, (some .int), 5, 1))
def mX5_look : jj_M := ((yX5_look, cX5_look), (5, none, 5, 2))
def mX5_take : jj_M := ((yX5_take, cX5_take), (4, none, 5, 0))
def mX5_value : jj_M := ((yX5_value, cX5_value), (1, (some .int), 5, 0))
def mX5_counted : jj_M := ((yX5_counted, cX5_counted), (2, (some .int), 5, 1))
def mX5_first : jj_M := ((yX5_first, cX5_first), (2, (some .int), 5, 1))
def mX5_fast : jj_M := ((yX5_fast, cX5_fast), (2, (some .int), 5, 1))
def mX5_price : jj_M := ((yX5_price, cX5_price), (5, (some .int), 5, 2))
def mX5_weight : jj_M := ((yX5_weight, cX5_weight), (5, (some .int), 5, 1))
def mX5_rank : jj_M := ((yX5_rank, cX5_rank), (5, (some .int), 5, 1))
def mX5_more : jj_M := ((yX5_more, cX5_more), (4, (some .int), 5, 1))
def mX5_must : jj_M := ((yX5_must, cX5_must), (3, (some .int), 5, 2))
def mX5_floor : jj_M := ((yX5_floor, cX5_floor), (2, (some .int), 5, 2))
def mX5_span : jj_M := ((yX5_span, cX5_span), (9, (some .int), 5, 2))
def mX5_put : jj_M := ((yX5_put, cX5_put), (4, (some .int), 5, 2))
def mX5_worth : jj_M := ((yX5_worth, cX5_worth), (1, (some .int), 5, 0))
def mX5_broken : jj_M := ((yX5_broken, cX5_broken), (2, (some .int), 5, 0))
def mX5_addRow : jj_M := ((yX5_addRow, cX5_addRow), (4, none, 5, 2))
def mX5_rowsNow : jj_M := ((yX5_rowsNow, cX5_rowsNow), (4, none, 5, 0))
def mX5_determinant : jj_M := ((yX5_determinant, cX5_determinant), (13, (some .long), 5, 1))
def mX5_isPriced : jj_M := ((yX5_isPriced, cX5_isPriced), (9, (some .boolean), 5, 2))
def mX5_shares : jj_M := ((yX5_shares, cX5_shares), (5, none, 5, 1))
def mX5_part : jj_M := ((yX5_part, cX5_part), (11, (some .long), 5, 3))
def mX5_share : jj_M := ((yX5_share, cX5_share), (2, (some .long), 5, 1))
def mX5_isPrice : jj_M := ((yX5_isPrice, cX5_isPrice), (2, (some .boolean), 5, 1))
def mX5_sharePrice : jj_M := ((yX5_sharePrice, cX5_sharePrice), (3, (some .long), 5, 2))
def mX5_holds : jj_M := ((yX5_holds, cX5_holds), (7, (some .int), 5, 1))
def mX5_gap : jj_M := ((yX5_gap, cX5_gap), (2, (some .long), 5, 1))
def mX5_told : jj_M := ((yX5_told, cX5_told), (4, (some .int), 5, 1))
def mJ6_bitCount_0f7a4 : jj_M := ((yJ6_bitCount_0f7a4, cJ6_bitCount_0f7a4), (1, (some .int), 6, 1))
def mJ9_floorDiv_7cf53 : jj_M := ((yJ9_floorDiv_7cf53, cJ9_floorDiv_7cf53), (3, (some .int), 9, 2))
def mJ9_abs_067f4 : jj_M := ((yJ9_abs_067f4, cJ9_abs_067f4), (2, (some .long), 9, 1))
def mJ9_max_7cf53 : jj_M := ((yJ9_max_7cf53, cJ9_max_7cf53), (2, (some .int), 9, 2))
def mJ9_max_f86c9 : jj_M := ((yJ9_max_f86c9, cJ9_max_f86c9), (4, (some .long), 9, 2))
def mJ9_min_7cf53 : jj_M := ((yJ9_min_7cf53, cJ9_min_7cf53), (2, (some .int), 9, 2))
def mJ9_min_f86c9 : jj_M := ((yJ9_min_f86c9, cJ9_min_f86c9), (4, (some .long), 9, 2))
def mJ7_fill_53178 : jj_M := ((yJ7_fill_53178, cJ7_fill_53178), (4, none, 7, 2))
def mL_law : jj_M := ((yL_law, cL_law), (4, (some .boolean), 8, 1))
def jj_fl : Nat → List (Nat × Nat × Nat)
  | 0 => [(9, 0, 2), (15, 0, 3), (18, 0, 4), (21, 0, 5), (24, 0, 6), (27, 0, 7), (30, 0, 8), (34, 0, 9), (37, 0, 0), (41, 0, 1)]
  | 1 => [(11, 1, 1), (15, 1, 2), (18, 1, 3), (21, 1, 4), (24, 1, 5), (27, 1, 0), (31, 0, 1), (40, 0, 0), (55, 0, 2), (59, 0, 9), (93, 0, 7), (100, 0, 3)]
  | 2 => [(9, 2, 5), (15, 2, 6), (19, 2, 7), (22, 2, 8), (25, 2, 0), (29, 2, 2), (32, 2, 3), (36, 2, 4), (54, 2, 1), (68, 3, 4), (71, 3, 5)]
  | 3 => [(9, 3, 1), (15, 3, 2), (18, 3, 3), (21, 3, 4), (24, 3, 0), (28, 0, 1), (34, 0, 8), (38, 0, 7), (40, 0, 0), (43, 0, 3), (44, 3, 5), (51, 0, 2), (54, 0, 9), (62, 0, 4), (65, 0, 5), (68, 0, 6)]
  | 4 => [(10, 4, 0), (21, 4, 1), (28, 4, 2), (35, 4, 3), (39, 4, 4), (51, 0, 0), (70, 0, 1), (83, 0, 4), (86, 0, 9), (93, 0, 8), (97, 0, 7), (100, 0, 2), (103, 0, 3), (110, 2, 4), (113, 2, 3), (116, 2, 2), (119, 2, 1), (122, 2, 5), (125, 2, 6), (163, 3, 5), (176, 1, 1), (180, 1, 2), (205, 4, 5), (209, 4, 6)]
  | 5 => [(7, 5, 1), (13, 5, 2), (16, 5, 4), (19, 5, 5), (22, 5, 6), (25, 5, 7), (28, 5, 8), (32, 5, 9), (35, 5, 10), (38, 5, 11), (41, 5, 14), (44, 5, 15), (47, 5, 18), (50, 5, 20), (53, 5, 21), (56, 5, 22), (59, 5, 23), (62, 5, 24), (66, 5, 0), (74, 5, 3), (107, 5, 12), (110, 5, 13), (113, 5, 16), (116, 5, 17), (146, 5, 19), (156, 5, 27), (160, 5, 25), (163, 5, 26), (169, 5, 30), (176, 5, 28), (179, 5, 29)]
  | _ => []
def jj_ldL : Nat → List (Nat × Int32)
  | 2 => [(35, -1000000)]
  | 3 => [(39, 1000000), (61, -1000000)]
  | 4 => [(50, -1000001), (55, -1000002)]
  | 5 => [(85, -1000001), (86, -1000002), (106, -1000000)]
  | 6 => [(265, 1431655765), (266, 858993459), (267, 252645135)]
  | _ => []
def jj_llL : Nat → List (Nat × Int64)
  | 1 => [(114, 400)]
  | 4 => [(187, -1000001)]
  | 5 => [(77, 999), (79, 9), (81, -99), (83, 99), (87, 2), (100, -9), (193, -1000001), (195, 400), (197, 10), (199, 29), (201, 30), (203, 49)]
  | _ => []
def jj_mvL : Nat → List (Nat × jj_M)
  | 1 => [(43, mX1_tryCorner), (51, mX0_countsForShares), (68, mX1_writeEquations), (75, mX1_writePrices), (85, mX1_boundAt), (89, mX1_swapDues), (96, mX1_slope), (107, mX1_boundAbove), (110, mX1_slopeBelow)]
  | 2 => [(45, mX3_begin), (50, mX3_plans), (57, mX2_lookAt), (61, mX3_step), (64, mX3_firstOver), (74, mX2_noteFitting), (83, mX2_noteBetter), (86, mX2_noteEqual), (90, mX2_gainWithout), (93, mX2_greatestWith), (96, mX2_restWith)]
  | 3 => [(47, mX3_shift), (57, mX3_load), (77, mX3_plans), (81, mX3_firstOver), (84, mX3_step)]
  | 4 => [(56, mX4_markChanged), (59, mX0_addThing), (67, mX4_isThing), (73, mX0_addRule), (76, mX0_pair), (80, mX4_isRule), (89, mX4_replace), (106, mX4_freshSurvey), (128, mX3_begin), (131, mX3_loosen), (135, mX3_greatestFitting), (139, mX2_gainWithout), (143, mX2_rulesAhead), (146, mX3_allowOneMore), (150, mX2_greatestWith), (153, mX2_spanTop), (156, mX2_spanBottom), (159, mX3_goTo), (166, mX3_firstOver), (169, mX4_freshCorners), (173, mX1_leastBound), (189, mX1_leastBoundFlattest), (192, mX1_slope), (196, mX1_reach), (199, mX4_toldCount), (202, mX0_rulesOn), (212, mX2_lookAtAll), (216, mX1_find)]
  | 5 => [(93, mX5_isThing), (97, mX5_isRule), (102, mX5_isAs), (119, mX5_fits), (123, mX5_take), (126, mX5_valueOf), (130, mX5_look), (134, mX5_value), (138, mX5_weight), (149, mX5_addRow), (152, mX5_determinant), (166, mX5_rowsNow), (172, mX5_isPriced), (182, mX5_shares), (190, mX5_isPrice)]
  | 8 => [(13, mX4_thing), (17, mX5_thing), (18, mX4_rule), (22, mX5_rule), (23, mX4_amount), (27, mX5_amount), (28, mX4_on), (32, mX5_on), (33, mX4_set), (36, mX5_set), (37, mX4_value), (41, mX5_value), (42, mX4_counted), (46, mX5_counted), (47, mX4_first), (50, mX5_first), (51, mX4_fast), (54, mX5_fast), (55, mX4_price), (58, mX5_price), (59, mX4_weight), (62, mX5_weight), (63, mX4_rank), (66, mX5_rank), (67, mX4_more), (70, mX5_more), (71, mX4_must), (74, mX5_must), (75, mX4_span), (78, mX5_span), (79, mX4_put), (82, mX5_put), (83, mX4_worth), (86, mX5_worth), (87, mX4_broken), (90, mX5_broken), (91, mX4_share), (95, mX5_share), (96, mX4_sharePrice), (100, mX5_sharePrice), (101, mX4_holds), (104, mX5_holds), (105, mX4_gap), (108, mX5_gap), (109, mX4_told), (112, mX5_told)]
  | _ => []
def jj_msL : Nat → List (Nat × jj_M)
  | 1 => [(36, mX1_allCount), (47, mX1_has), (62, mJ6_bitCount_0f7a4), (71, mX1_determinant), (79, mJ9_abs_067f4), (103, mJ9_max_f86c9), (116, mJ9_min_f86c9)]
  | 2 => [(39, mJ7_fill_53178), (77, mJ9_max_7cf53), (100, mJ9_floorDiv_7cf53), (103, mJ9_min_7cf53)]
  | 3 => [(71, mJ9_min_7cf53)]
  | 4 => [(43, mX4_isWorth), (47, mX4_isCount), (63, mX4_isLimit), (183, mX4_inLowestTerms), (219, mJ9_abs_067f4), (225, mX4_commonDivisor)]
  | 5 => [(70, mX5_in), (89, mX5_isLimit), (142, mX5_floor), (186, mX5_part)]
  | _ => []
def jj_sh : List (Nat ⊕ (FieldType × Nat)) := [.inl 4, .inl 0, .inr (.int, 4), .inr (.int, 4), .inr (.int, 6), .inr (.int, 6), .inr (.int, 6), .inr (.int, 6), .inr (.boolean, 6), .inr (.int, 24), .inl 3, .inr (.int, 6), .inr (.int, 4), .inr (.int, 6), .inr (.int, 4), .inl 2, .inr (.int, 4), .inr (.boolean, 4), .inr (.int, 40), .inr (.int, 6), .inl 1, .inr (.long, 210), .inr (.long, 210), .inr (.long, 1260), .inr (.long, 16), .inr (.long, 4), .inr (.int, 4), .inl 5, .inr (.int, 4), .inr (.int, 4), .inr (.int, 6), .inr (.int, 6), .inr (.int, 6), .inr (.int, 6), .inr (.boolean, 6), .inr (.int, 24), .inr (.int, 4), .inr (.int, 4), .inr (.int, 4), .inr (.boolean, 4), .inr (.int, 6), .inr (.int, 56), .inr (.int, 14), .inr (.int, 14), .inr (.int, 14), .inr (.long, 16)]
abbrev jj_nc : Nat := 46
def jj_nf : Nat → Nat
  | 0 => 10
  | 1 => 6
  | 2 => 9
  | 3 => 6
  | 4 => 7
  | 5 => 31
  | _ => 0
def jj_fty : Nat → Nat → FieldType
  | 0 => tyX0
  | 1 => tyX1
  | 2 => tyX2
  | 3 => tyX3
  | 4 => tyX4
  | 5 => tyX5
  | _ => fun _ => .int
/-- the cell that a field of an object names: it never changes -/
def jj_rfL : Nat → List Nat
  | 0 => [1, 10, 15, 20, 26, 0, 0]
  | 1 => [0, 0, 2, 3, 4, 5, 6, 7, 8, 9]
  | 10 => [1, 11, 12, 13, 14, 0]
  | 15 => [0, 0, 0, 0, 0, 16, 17, 18, 19]
  | 20 => [0, 21, 22, 23, 24, 25]
  | 27 => [0, 28, 29, 0, 30, 31, 32, 33, 34, 35, 36, 37, 0, 0, 38, 39, 0, 0, 40, 0, 41, 42, 43, 44, 45, 0, 0, 0, 0, 0, 0]
  | _ => []
def jj_rf (a k : Nat) : Nat := (jj_rfL a).getD k 0
end
section
/-! words of the tables that calls can hand on -/
def jj_wl : List Cond := lw_tbl.filter goodWord
theorem jj_m {i : Nat} {w : Cond} (h : lw_tbl[i]? = some w) (g : goodWord w = true) : w ∈ jj_wl := List.mem_filter.mpr ⟨List.mem_of_getElem? h, g⟩
theorem jj_wl_good : ∀ w ∈ jj_wl, goodWord w = true := fun w h => (List.mem_filter.mp h).2
def jj_T : Nat → u_T
  | 0 => TX0
  | 1 => TX1
  | 2 => TX2
  | 3 => TX3
  | 4 => TX4
  | 5 => TX5
  | _ => TX0
set_option maxRecDepth 20000 in
theorem jj_fl_ok_0 : ∀ e ∈ jj_fl 0, Cond.fieldLink (jj_R 0) e.1 (jj_T e.2.1 e.2.2).1 (jj_T e.2.1 e.2.2).2.1 (jj_T e.2.1 e.2.2).2.2.1 ∈ jj_wl := List.forall_mem_cons.mpr ⟨jj_m (i := 66) rfl rfl, List.forall_mem_cons.mpr ⟨jj_m (i := 70) rfl rfl, List.forall_mem_cons.mpr ⟨jj_m (i := 74) rfl rfl, List.forall_mem_cons.mpr ⟨jj_m (i := 77) rfl rfl, List.forall_mem_cons.mpr ⟨jj_m (i := 79) rfl rfl, List.forall_mem_cons.mpr ⟨jj_m (i := 81) rfl rfl, List.forall_mem_cons.mpr ⟨jj_m (i := 85) rfl rfl, List.forall_mem_cons.mpr ⟨jj_m (i := 88) rfl rfl, List.forall_mem_cons.mpr ⟨jj_m (i := 58) rfl rfl, List.forall_mem_cons.mpr ⟨jj_m (i := 64) rfl rfl, fun _ h => absurd h List.not_mem_nil⟩⟩⟩⟩⟩⟩⟩⟩⟩⟩
set_option maxRecDepth 20000 in
theorem jj_fl_ok_1 : ∀ e ∈ jj_fl 1, Cond.fieldLink (jj_R 1) e.1 (jj_T e.2.1 e.2.2).1 (jj_T e.2.1 e.2.2).2.1 (jj_T e.2.1 e.2.2).2.2.1 ∈ jj_wl := List.forall_mem_cons.mpr ⟨jj_m (i := 190) rfl rfl, List.forall_mem_cons.mpr ⟨jj_m (i := 192) rfl rfl, List.forall_mem_cons.mpr ⟨jj_m (i := 194) rfl rfl, List.forall_mem_cons.mpr ⟨jj_m (i := 195) rfl rfl, List.forall_mem_cons.mpr ⟨jj_m (i := 196) rfl rfl, List.forall_mem_cons.mpr ⟨jj_m (i := 189) rfl rfl, List.forall_mem_cons.mpr ⟨jj_m (i := 63) rfl rfl, List.forall_mem_cons.mpr ⟨jj_m (i := 60) rfl rfl, List.forall_mem_cons.mpr ⟨jj_m (i := 67) rfl rfl, List.forall_mem_cons.mpr ⟨jj_m (i := 90) rfl rfl, List.forall_mem_cons.mpr ⟨jj_m (i := 84) rfl rfl, List.forall_mem_cons.mpr ⟨jj_m (i := 73) rfl rfl, fun _ h => absurd h List.not_mem_nil⟩⟩⟩⟩⟩⟩⟩⟩⟩⟩⟩⟩
set_option maxRecDepth 20000 in
theorem jj_fl_ok_2 : ∀ e ∈ jj_fl 2, Cond.fieldLink (jj_R 2) e.1 (jj_T e.2.1 e.2.2).1 (jj_T e.2.1 e.2.2).2.1 (jj_T e.2.1 e.2.2).2.2.1 ∈ jj_wl := List.forall_mem_cons.mpr ⟨jj_m (i := 158) rfl rfl, List.forall_mem_cons.mpr ⟨jj_m (i := 160) rfl rfl, List.forall_mem_cons.mpr ⟨jj_m (i := 162) rfl rfl, List.forall_mem_cons.mpr ⟨jj_m (i := 163) rfl rfl, List.forall_mem_cons.mpr ⟨jj_m (i := 149) rfl rfl, List.forall_mem_cons.mpr ⟨jj_m (i := 152) rfl rfl, List.forall_mem_cons.mpr ⟨jj_m (i := 154) rfl rfl, List.forall_mem_cons.mpr ⟨jj_m (i := 156) rfl rfl, List.forall_mem_cons.mpr ⟨jj_m (i := 150) rfl rfl, List.forall_mem_cons.mpr ⟨jj_m (i := 126) rfl rfl, List.forall_mem_cons.mpr ⟨jj_m (i := 128) rfl rfl, fun _ h => absurd h List.not_mem_nil⟩⟩⟩⟩⟩⟩⟩⟩⟩⟩⟩
set_option maxRecDepth 20000 in
theorem jj_fl_ok_3 : ∀ e ∈ jj_fl 3, Cond.fieldLink (jj_R 3) e.1 (jj_T e.2.1 e.2.2).1 (jj_T e.2.1 e.2.2).2.1 (jj_T e.2.1 e.2.2).2.2.1 ∈ jj_wl := List.forall_mem_cons.mpr ⟨jj_m (i := 122) rfl rfl, List.forall_mem_cons.mpr ⟨jj_m (i := 123) rfl rfl, List.forall_mem_cons.mpr ⟨jj_m (i := 124) rfl rfl, List.forall_mem_cons.mpr ⟨jj_m (i := 125) rfl rfl, List.forall_mem_cons.mpr ⟨jj_m (i := 121) rfl rfl, List.forall_mem_cons.mpr ⟨jj_m (i := 62) rfl rfl, List.forall_mem_cons.mpr ⟨jj_m (i := 86) rfl rfl, List.forall_mem_cons.mpr ⟨jj_m (i := 82) rfl rfl, List.forall_mem_cons.mpr ⟨jj_m (i := 61) rfl rfl, List.forall_mem_cons.mpr ⟨jj_m (i := 71) rfl rfl, List.forall_mem_cons.mpr ⟨jj_m (i := 127) rfl rfl, List.forall_mem_cons.mpr ⟨jj_m (i := 69) rfl rfl, List.forall_mem_cons.mpr ⟨jj_m (i := 91) rfl rfl, List.forall_mem_cons.mpr ⟨jj_m (i := 76) rfl rfl, List.forall_mem_cons.mpr ⟨jj_m (i := 78) rfl rfl, List.forall_mem_cons.mpr ⟨jj_m (i := 80) rfl rfl, fun _ h => absurd h List.not_mem_nil⟩⟩⟩⟩⟩⟩⟩⟩⟩⟩⟩⟩⟩⟩⟩⟩
set_option maxRecDepth 20000 in
theorem jj_fl_ok_4 : ∀ e ∈ jj_fl 4, Cond.fieldLink (jj_R 4) e.1 (jj_T e.2.1 e.2.2).1 (jj_T e.2.1 e.2.2).2.1 (jj_T e.2.1 e.2.2).2.2.1 ∈ jj_wl := List.forall_mem_cons.mpr ⟨jj_m (i := 211) rfl rfl, List.forall_mem_cons.mpr ⟨jj_m (i := 212) rfl rfl, List.forall_mem_cons.mpr ⟨jj_m (i := 213) rfl rfl, List.forall_mem_cons.mpr ⟨jj_m (i := 214) rfl rfl, List.forall_mem_cons.mpr ⟨jj_m (i := 215) rfl rfl, List.forall_mem_cons.mpr ⟨jj_m (i := 59) rfl rfl, List.forall_mem_cons.mpr ⟨jj_m (i := 65) rfl rfl, List.forall_mem_cons.mpr ⟨jj_m (i := 75) rfl rfl, List.forall_mem_cons.mpr ⟨jj_m (i := 89) rfl rfl, List.forall_mem_cons.mpr ⟨jj_m (i := 87) rfl rfl, List.forall_mem_cons.mpr ⟨jj_m (i := 83) rfl rfl, List.forall_mem_cons.mpr ⟨jj_m (i := 68) rfl rfl, List.forall_mem_cons.mpr ⟨jj_m (i := 72) rfl rfl, List.forall_mem_cons.mpr ⟨jj_m (i := 157) rfl rfl, List.forall_mem_cons.mpr ⟨jj_m (i := 155) rfl rfl, List.forall_mem_cons.mpr ⟨jj_m (i := 153) rfl rfl, List.forall_mem_cons.mpr ⟨jj_m (i := 151) rfl rfl, List.forall_mem_cons.mpr ⟨jj_m (i := 159) rfl rfl, List.forall_mem_cons.mpr ⟨jj_m (i := 161) rfl rfl, List.forall_mem_cons.mpr ⟨jj_m (i := 129) rfl rfl, List.forall_mem_cons.mpr ⟨jj_m (i := 191) rfl rfl, List.forall_mem_cons.mpr ⟨jj_m (i := 193) rfl rfl, List.forall_mem_cons.mpr ⟨jj_m (i := 216) rfl rfl, List.forall_mem_cons.mpr ⟨jj_m (i := 217) rfl rfl, fun _ h => absurd h List.not_mem_nil⟩⟩⟩⟩⟩⟩⟩⟩⟩⟩⟩⟩⟩⟩⟩⟩⟩⟩⟩⟩⟩⟩⟩⟩
set_option maxRecDepth 20000 in
theorem jj_fl_ok_5 : ∀ e ∈ jj_fl 5, Cond.fieldLink (jj_R 5) e.1 (jj_T e.2.1 e.2.2).1 (jj_T e.2.1 e.2.2).2.1 (jj_T e.2.1 e.2.2).2.2.1 ∈ jj_wl := List.forall_mem_cons.mpr ⟨jj_m (i := 580) rfl rfl, List.forall_mem_cons.mpr ⟨jj_m (i := 581) rfl rfl, List.forall_mem_cons.mpr ⟨jj_m (i := 583) rfl rfl, List.forall_mem_cons.mpr ⟨jj_m (i := 584) rfl rfl, List.forall_mem_cons.mpr ⟨jj_m (i := 585) rfl rfl, List.forall_mem_cons.mpr ⟨jj_m (i := 586) rfl rfl, List.forall_mem_cons.mpr ⟨jj_m (i := 587) rfl rfl, List.forall_mem_cons.mpr ⟨jj_m (i := 588) rfl rfl, List.forall_mem_cons.mpr ⟨jj_m (i := 589) rfl rfl, List.forall_mem_cons.mpr ⟨jj_m (i := 590) rfl rfl, List.forall_mem_cons.mpr ⟨jj_m (i := 593) rfl rfl, List.forall_mem_cons.mpr ⟨jj_m (i := 594) rfl rfl, List.forall_mem_cons.mpr ⟨jj_m (i := 597) rfl rfl, List.forall_mem_cons.mpr ⟨jj_m (i := 599) rfl rfl, List.forall_mem_cons.mpr ⟨jj_m (i := 600) rfl rfl, List.forall_mem_cons.mpr ⟨jj_m (i := 601) rfl rfl, List.forall_mem_cons.mpr ⟨jj_m (i := 602) rfl rfl, List.forall_mem_cons.mpr ⟨jj_m (i := 603) rfl rfl, List.forall_mem_cons.mpr ⟨jj_m (i := 579) rfl rfl, List.forall_mem_cons.mpr ⟨jj_m (i := 582) rfl rfl, List.forall_mem_cons.mpr ⟨jj_m (i := 591) rfl rfl, List.forall_mem_cons.mpr ⟨jj_m (i := 592) rfl rfl, List.forall_mem_cons.mpr ⟨jj_m (i := 595) rfl rfl, List.forall_mem_cons.mpr ⟨jj_m (i := 596) rfl rfl, List.forall_mem_cons.mpr ⟨jj_m (i := 598) rfl rfl, List.forall_mem_cons.mpr ⟨jj_m (i := 606) rfl rfl, List.forall_mem_cons.mpr ⟨jj_m (i := 604) rfl rfl, List.forall_mem_cons.mpr ⟨jj_m (i := 605) rfl rfl, List.forall_mem_cons.mpr ⟨jj_m (i := 609) rfl rfl, List.forall_mem_cons.mpr ⟨jj_m (i := 607) rfl rfl, List.forall_mem_cons.mpr ⟨jj_m (i := 608) rfl rfl, fun _ h => absurd h List.not_mem_nil⟩⟩⟩⟩⟩⟩⟩⟩⟩⟩⟩⟩⟩⟩⟩⟩⟩⟩⟩⟩⟩⟩⟩⟩⟩⟩⟩⟩⟩⟩⟩
theorem jj_fl_ok : ∀ c : Nat, ∀ e ∈ jj_fl c, Cond.fieldLink (jj_R c) e.1 (jj_T e.2.1 e.2.2).1 (jj_T e.2.1 e.2.2).2.1 (jj_T e.2.1 e.2.2).2.2.1 ∈ jj_wl := fun c => match c with
  | 0 => jj_fl_ok_0
  | 1 => jj_fl_ok_1
  | 2 => jj_fl_ok_2
  | 3 => jj_fl_ok_3
  | 4 => jj_fl_ok_4
  | 5 => jj_fl_ok_5
  | 6 => fun _ h => absurd h List.not_mem_nil
  | 7 => fun _ h => absurd h List.not_mem_nil
  | 8 => fun _ h => absurd h List.not_mem_nil
  | 9 => fun _ h => absurd h List.not_mem_nil
  | _ + 10 => fun _ h => absurd h List.not_mem_nil
set_option maxRecDepth 20000 in
theorem jj_ld_ok_2 : ∀ e ∈ jj_ldL 2, Cond.constant (jj_R 2) e.1 e.2 ∈ jj_wl := List.forall_mem_cons.mpr ⟨jj_m (i := 304) rfl rfl, fun _ h => absurd h List.not_mem_nil⟩
set_option maxRecDepth 20000 in
theorem jj_ld_ok_3 : ∀ e ∈ jj_ldL 3, Cond.constant (jj_R 3) e.1 e.2 ∈ jj_wl := List.forall_mem_cons.mpr ⟨jj_m (i := 312) rfl rfl, List.forall_mem_cons.mpr ⟨jj_m (i := 332) rfl rfl, fun _ h => absurd h List.not_mem_nil⟩⟩
set_option maxRecDepth 20000 in
theorem jj_ld_ok_4 : ∀ e ∈ jj_ldL 4, Cond.constant (jj_R 4) e.1 e.2 ∈ jj_wl := List.forall_mem_cons.mpr ⟨jj_m (i := 243) rfl rfl, List.forall_mem_cons.mpr ⟨jj_m (i := 244) rfl rfl, fun _ h => absurd h List.not_mem_nil⟩⟩
set_option maxRecDepth 20000 in
theorem jj_ld_ok_5 : ∀ e ∈ jj_ldL 5, Cond.constant (jj_R 5) e.1 e.2 ∈ jj_wl := List.forall_mem_cons.mpr ⟨jj_m (i := 683) rfl rfl, List.forall_mem_cons.mpr ⟨jj_m (i := 684) rfl rfl, List.forall_mem_cons.mpr ⟨jj_m (i := 719) rfl rfl, fun _ h => absurd h List.not_mem_nil⟩⟩⟩
set_option maxRecDepth 20000 in
theorem jj_ld_ok_6 : ∀ e ∈ jj_ldL 6, Cond.constant (jj_R 6) e.1 e.2 ∈ jj_wl := List.forall_mem_cons.mpr ⟨jj_m (i := 484) rfl rfl, List.forall_mem_cons.mpr ⟨jj_m (i := 485) rfl rfl, List.forall_mem_cons.mpr ⟨jj_m (i := 486) rfl rfl, fun _ h => absurd h List.not_mem_nil⟩⟩⟩
theorem jj_ld_ok : ∀ c : Nat, ∀ e ∈ jj_ldL c, Cond.constant (jj_R c) e.1 e.2 ∈ jj_wl := fun c => match c with
  | 0 => fun _ h => absurd h List.not_mem_nil
  | 1 => fun _ h => absurd h List.not_mem_nil
  | 2 => jj_ld_ok_2
  | 3 => jj_ld_ok_3
  | 4 => jj_ld_ok_4
  | 5 => jj_ld_ok_5
  | 6 => jj_ld_ok_6
  | 7 => fun _ h => absurd h List.not_mem_nil
  | 8 => fun _ h => absurd h List.not_mem_nil
  | 9 => fun _ h => absurd h List.not_mem_nil
  | _ + 10 => fun _ h => absurd h List.not_mem_nil
set_option maxRecDepth 20000 in
theorem jj_ll_ok_1 : ∀ e ∈ jj_llL 1, Cond.constantLong (jj_R 1) e.1 e.2 ∈ jj_wl := List.forall_mem_cons.mpr ⟨jj_m (i := 553) rfl rfl, fun _ h => absurd h List.not_mem_nil⟩
set_option maxRecDepth 20000 in
theorem jj_ll_ok_4 : ∀ e ∈ jj_llL 4, Cond.constantLong (jj_R 4) e.1 e.2 ∈ jj_wl := List.forall_mem_cons.mpr ⟨jj_m (i := 535) rfl rfl, fun _ h => absurd h List.not_mem_nil⟩
set_option maxRecDepth 20000 in
theorem jj_ll_ok_5 : ∀ e ∈ jj_llL 5, Cond.constantLong (jj_R 5) e.1 e.2 ∈ jj_wl := List.forall_mem_cons.mpr ⟨jj_m (i := 693) rfl rfl, List.forall_mem_cons.mpr ⟨jj_m (i := 682) rfl rfl, List.forall_mem_cons.mpr ⟨jj_m (i := 677) rfl rfl, List.forall_mem_cons.mpr ⟨jj_m (i := 678) rfl rfl, List.forall_mem_cons.mpr ⟨jj_m (i := 689) rfl rfl, List.forall_mem_cons.mpr ⟨jj_m (i := 706) rfl rfl, List.forall_mem_cons.mpr ⟨jj_m (i := 828) rfl rfl, List.forall_mem_cons.mpr ⟨jj_m (i := 833) rfl rfl, List.forall_mem_cons.mpr ⟨jj_m (i := 842) rfl rfl, List.forall_mem_cons.mpr ⟨jj_m (i := 843) rfl rfl, List.forall_mem_cons.mpr ⟨jj_m (i := 844) rfl rfl, List.forall_mem_cons.mpr ⟨jj_m (i := 845) rfl rfl, fun _ h => absurd h List.not_mem_nil⟩⟩⟩⟩⟩⟩⟩⟩⟩⟩⟩⟩
theorem jj_ll_ok : ∀ c : Nat, ∀ e ∈ jj_llL c, Cond.constantLong (jj_R c) e.1 e.2 ∈ jj_wl := fun c => match c with
  | 0 => fun _ h => absurd h List.not_mem_nil
  | 1 => jj_ll_ok_1
  | 2 => fun _ h => absurd h List.not_mem_nil
  | 3 => fun _ h => absurd h List.not_mem_nil
  | 4 => jj_ll_ok_4
  | 5 => jj_ll_ok_5
  | 6 => fun _ h => absurd h List.not_mem_nil
  | 7 => fun _ h => absurd h List.not_mem_nil
  | 8 => fun _ h => absurd h List.not_mem_nil
  | 9 => fun _ h => absurd h List.not_mem_nil
  | _ + 10 => fun _ h => absurd h List.not_mem_nil
def jj_okM (M : jj_M) : Prop := plainFor M.1.1 = true ∧ Cond.code M.1.1 M.1.2 M.2.1 M.2.2.1 ∈ jj_wl ∧ jj_R M.2.2.2.1 = M.1.1.cls ∧ Cond.initialized M.1.1.cls ∈ jj_wl ∧ M.1.1.cls ≠ "java/lang/invoke/MethodHandle" ∧ M.1.1.cls ≠ "java/lang/invoke/VarHandle" ∧ (parseMethodDescriptor M.1.1.desc).map (fun d => d.parameters.length) = some M.2.2.2.2 ∧ M.2.1 < 30
set_option maxRecDepth 20000 in
theorem okX0_addThing : jj_okM mX0_addThing := ⟨by decide +kernel, jj_m (i := 252) rfl rfl, rfl, jj_m (i := 36) rfl rfl, by decide +kernel, by decide +kernel, by decide +kernel, by decide⟩
set_option maxRecDepth 20000 in
theorem okX0_addRule : jj_okM mX0_addRule := ⟨by decide +kernel, jj_m (i := 267) rfl rfl, rfl, jj_m (i := 36) rfl rfl, by decide +kernel, by decide +kernel, by decide +kernel, by decide⟩
set_option maxRecDepth 20000 in
theorem okX0_pair : jj_okM mX0_pair := ⟨by decide +kernel, jj_m (i := 271) rfl rfl, rfl, jj_m (i := 36) rfl rfl, by decide +kernel, by decide +kernel, by decide +kernel, by decide⟩
set_option maxRecDepth 20000 in
theorem okX0_rulesOn : jj_okM mX0_rulesOn := ⟨by decide +kernel, jj_m (i := 572) rfl rfl, rfl, jj_m (i := 36) rfl rfl, by decide +kernel, by decide +kernel, by decide +kernel, by decide⟩
set_option maxRecDepth 20000 in
theorem okX0_countsForShares : jj_okM mX0_countsForShares := ⟨by decide +kernel, jj_m (i := 476) rfl rfl, rfl, jj_m (i := 36) rfl rfl, by decide +kernel, by decide +kernel, by decide +kernel, by decide⟩
set_option maxRecDepth 20000 in
theorem okX1_find : jj_okM mX1_find := ⟨by decide +kernel, jj_m (i := 466) rfl rfl, rfl, jj_m (i := 39) rfl rfl, by decide +kernel, by decide +kernel, by decide +kernel, by decide⟩
set_option maxRecDepth 20000 in
theorem okX1_allCount : jj_okM mX1_allCount := ⟨by decide +kernel, jj_m (i := 469) rfl rfl, rfl, jj_m (i := 39) rfl rfl, by decide +kernel, by decide +kernel, by decide +kernel, by decide⟩
set_option maxRecDepth 20000 in
theorem okX1_has : jj_okM mX1_has := ⟨by decide +kernel, jj_m (i := 472) rfl rfl, rfl, jj_m (i := 39) rfl rfl, by decide +kernel, by decide +kernel, by decide +kernel, by decide⟩
set_option maxRecDepth 20000 in
theorem okX1_writeEquations : jj_okM mX1_writeEquations := ⟨by decide +kernel, jj_m (i := 490) rfl rfl, rfl, jj_m (i := 39) rfl rfl, by decide +kernel, by decide +kernel, by decide +kernel, by decide⟩
set_option maxRecDepth 20000 in
theorem okX1_tryCorner : jj_okM mX1_tryCorner := ⟨by decide +kernel, jj_m (i := 480) rfl rfl, rfl, jj_m (i := 39) rfl rfl, by decide +kernel, by decide +kernel, by decide +kernel, by decide⟩
set_option maxRecDepth 20000 in
theorem okX1_writePrices : jj_okM mX1_writePrices := ⟨by decide +kernel, jj_m (i := 497) rfl rfl, rfl, jj_m (i := 39) rfl rfl, by decide +kernel, by decide +kernel, by decide +kernel, by decide⟩
set_option maxRecDepth 20000 in
theorem okX1_swapDues : jj_okM mX1_swapDues := ⟨by decide +kernel, jj_m (i := 501) rfl rfl, rfl, jj_m (i := 39) rfl rfl, by decide +kernel, by decide +kernel, by decide +kernel, by decide⟩
set_option maxRecDepth 20000 in
theorem okX1_determinant : jj_okM mX1_determinant := ⟨by decide +kernel, jj_m (i := 493) rfl rfl, rfl, jj_m (i := 39) rfl rfl, by decide +kernel, by decide +kernel, by decide +kernel, by decide⟩
set_option maxRecDepth 20000 in
theorem okX1_boundAt : jj_okM mX1_boundAt := ⟨by decide +kernel, jj_m (i := 508) rfl rfl, rfl, jj_m (i := 39) rfl rfl, by decide +kernel, by decide +kernel, by decide +kernel, by decide⟩
set_option maxRecDepth 20000 in
theorem okX1_slope : jj_okM mX1_slope := ⟨by decide +kernel, jj_m (i := 512) rfl rfl, rfl, jj_m (i := 39) rfl rfl, by decide +kernel, by decide +kernel, by decide +kernel, by decide⟩
set_option maxRecDepth 20000 in
theorem okX1_leastBound : jj_okM mX1_leastBound := ⟨by decide +kernel, jj_m (i := 519) rfl rfl, rfl, jj_m (i := 39) rfl rfl, by decide +kernel, by decide +kernel, by decide +kernel, by decide⟩
set_option maxRecDepth 20000 in
theorem okX1_leastBoundFlattest : jj_okM mX1_leastBoundFlattest := ⟨by decide +kernel, jj_m (i := 539) rfl rfl, rfl, jj_m (i := 39) rfl rfl, by decide +kernel, by decide +kernel, by decide +kernel, by decide⟩
set_option maxRecDepth 20000 in
theorem okX1_reach : jj_okM mX1_reach := ⟨by decide +kernel, jj_m (i := 552) rfl rfl, rfl, jj_m (i := 39) rfl rfl, by decide +kernel, by decide +kernel, by decide +kernel, by decide⟩
set_option maxRecDepth 20000 in
theorem okX1_boundAbove : jj_okM mX1_boundAbove := ⟨by decide +kernel, jj_m (i := 523) rfl rfl, rfl, jj_m (i := 39) rfl rfl, by decide +kernel, by decide +kernel, by decide +kernel, by decide⟩
set_option maxRecDepth 20000 in
theorem okX1_slopeBelow : jj_okM mX1_slopeBelow := ⟨by decide +kernel, jj_m (i := 543) rfl rfl, rfl, jj_m (i := 39) rfl rfl, by decide +kernel, by decide +kernel, by decide +kernel, by decide⟩
set_option maxRecDepth 20000 in
theorem okX2_lookAtAll : jj_okM mX2_lookAtAll := ⟨by decide +kernel, jj_m (i := 303) rfl rfl, rfl, jj_m (i := 38) rfl rfl, by decide +kernel, by decide +kernel, by decide +kernel, by decide⟩
set_option maxRecDepth 20000 in
theorem okX2_lookAt : jj_okM mX2_lookAt := ⟨by decide +kernel, jj_m (i := 320) rfl rfl, rfl, jj_m (i := 38) rfl rfl, by decide +kernel, by decide +kernel, by decide +kernel, by decide⟩
set_option maxRecDepth 20000 in
theorem okX2_noteFitting : jj_okM mX2_noteFitting := ⟨by decide +kernel, jj_m (i := 336) rfl rfl, rfl, jj_m (i := 38) rfl rfl, by decide +kernel, by decide +kernel, by decide +kernel, by decide⟩
set_option maxRecDepth 20000 in
theorem okX2_noteBetter : jj_okM mX2_noteBetter := ⟨by decide +kernel, jj_m (i := 343) rfl rfl, rfl, jj_m (i := 38) rfl rfl, by decide +kernel, by decide +kernel, by decide +kernel, by decide⟩
set_option maxRecDepth 20000 in
theorem okX2_noteEqual : jj_okM mX2_noteEqual := ⟨by decide +kernel, jj_m (i := 347) rfl rfl, rfl, jj_m (i := 38) rfl rfl, by decide +kernel, by decide +kernel, by decide +kernel, by decide⟩
set_option maxRecDepth 20000 in
theorem okX2_greatestWith : jj_okM mX2_greatestWith := ⟨by decide +kernel, jj_m (i := 416) rfl rfl, rfl, jj_m (i := 38) rfl rfl, by decide +kernel, by decide +kernel, by decide +kernel, by decide⟩
set_option maxRecDepth 20000 in
theorem okX2_gainWithout : jj_okM mX2_gainWithout := ⟨by decide +kernel, jj_m (i := 391) rfl rfl, rfl, jj_m (i := 38) rfl rfl, by decide +kernel, by decide +kernel, by decide +kernel, by decide⟩
set_option maxRecDepth 20000 in
theorem okX2_rulesAhead : jj_okM mX2_rulesAhead := ⟨by decide +kernel, jj_m (i := 399) rfl rfl, rfl, jj_m (i := 38) rfl rfl, by decide +kernel, by decide +kernel, by decide +kernel, by decide⟩
set_option maxRecDepth 20000 in
theorem okX2_spanBottom : jj_okM mX2_spanBottom := ⟨by decide +kernel, jj_m (i := 437) rfl rfl, rfl, jj_m (i := 38) rfl rfl, by decide +kernel, by decide +kernel, by decide +kernel, by decide⟩
set_option maxRecDepth 20000 in
theorem okX2_spanTop : jj_okM mX2_spanTop := ⟨by decide +kernel, jj_m (i := 424) rfl rfl, rfl, jj_m (i := 38) rfl rfl, by decide +kernel, by decide +kernel, by decide +kernel, by decide⟩
set_option maxRecDepth 20000 in
theorem okX2_restWith : jj_okM mX2_restWith := ⟨by decide +kernel, jj_m (i := 429) rfl rfl, rfl, jj_m (i := 38) rfl rfl, by decide +kernel, by decide +kernel, by decide +kernel, by decide⟩
set_option maxRecDepth 20000 in
theorem okX3_begin : jj_okM mX3_begin := ⟨by decide +kernel, jj_m (i := 311) rfl rfl, rfl, jj_m (i := 37) rfl rfl, by decide +kernel, by decide +kernel, by decide +kernel, by decide⟩
set_option maxRecDepth 20000 in
theorem okX3_loosen : jj_okM mX3_loosen := ⟨by decide +kernel, jj_m (i := 376) rfl rfl, rfl, jj_m (i := 37) rfl rfl, by decide +kernel, by decide +kernel, by decide +kernel, by decide⟩
set_option maxRecDepth 20000 in
theorem okX3_allowOneMore : jj_okM mX3_allowOneMore := ⟨by decide +kernel, jj_m (i := 408) rfl rfl, rfl, jj_m (i := 37) rfl rfl, by decide +kernel, by decide +kernel, by decide +kernel, by decide⟩
set_option maxRecDepth 20000 in
theorem okX3_goTo : jj_okM mX3_goTo := ⟨by decide +kernel, jj_m (i := 449) rfl rfl, rfl, jj_m (i := 37) rfl rfl, by decide +kernel, by decide +kernel, by decide +kernel, by decide⟩
set_option maxRecDepth 20000 in
theorem okX3_plans : jj_okM mX3_plans := ⟨by decide +kernel, jj_m (i := 316) rfl rfl, rfl, jj_m (i := 37) rfl rfl, by decide +kernel, by decide +kernel, by decide +kernel, by decide⟩
set_option maxRecDepth 20000 in
theorem okX3_step : jj_okM mX3_step := ⟨by decide +kernel, jj_m (i := 351) rfl rfl, rfl, jj_m (i := 37) rfl rfl, by decide +kernel, by decide +kernel, by decide +kernel, by decide⟩
set_option maxRecDepth 20000 in
theorem okX3_shift : jj_okM mX3_shift := ⟨by decide +kernel, jj_m (i := 355) rfl rfl, rfl, jj_m (i := 37) rfl rfl, by decide +kernel, by decide +kernel, by decide +kernel, by decide⟩
set_option maxRecDepth 20000 in
theorem okX3_firstOver : jj_okM mX3_firstOver := ⟨by decide +kernel, jj_m (i := 324) rfl rfl, rfl, jj_m (i := 37) rfl rfl, by decide +kernel, by decide +kernel, by decide +kernel, by decide⟩
set_option maxRecDepth 20000 in
theorem okX3_load : jj_okM mX3_load := ⟨by decide +kernel, jj_m (i := 328) rfl rfl, rfl, jj_m (i := 37) rfl rfl, by decide +kernel, by decide +kernel, by decide +kernel, by decide⟩
set_option maxRecDepth 20000 in
theorem okX3_greatestFitting : jj_okM mX3_greatestFitting := ⟨by decide +kernel, jj_m (i := 380) rfl rfl, rfl, jj_m (i := 37) rfl rfl, by decide +kernel, by decide +kernel, by decide +kernel, by decide⟩
set_option maxRecDepth 20000 in
theorem okX4_thing : jj_okM mX4_thing := ⟨by decide +kernel, jj_m (i := 236) rfl rfl, rfl, jj_m (i := 35) rfl rfl, by decide +kernel, by decide +kernel, by decide +kernel, by decide⟩
set_option maxRecDepth 20000 in
theorem okX4_rule : jj_okM mX4_rule := ⟨by decide +kernel, jj_m (i := 256) rfl rfl, rfl, jj_m (i := 35) rfl rfl, by decide +kernel, by decide +kernel, by decide +kernel, by decide⟩
set_option maxRecDepth 20000 in
theorem okX4_amount : jj_okM mX4_amount := ⟨by decide +kernel, jj_m (i := 275) rfl rfl, rfl, jj_m (i := 35) rfl rfl, by decide +kernel, by decide +kernel, by decide +kernel, by decide⟩
set_option maxRecDepth 20000 in
theorem okX4_on : jj_okM mX4_on := ⟨by decide +kernel, jj_m (i := 287) rfl rfl, rfl, jj_m (i := 35) rfl rfl, by decide +kernel, by decide +kernel, by decide +kernel, by decide⟩
set_option maxRecDepth 20000 in
theorem okX4_set : jj_okM mX4_set := ⟨by decide +kernel, jj_m (i := 291) rfl rfl, rfl, jj_m (i := 35) rfl rfl, by decide +kernel, by decide +kernel, by decide +kernel, by decide⟩
set_option maxRecDepth 20000 in
theorem okX4_value : jj_okM mX4_value := ⟨by decide +kernel, jj_m (i := 295) rfl rfl, rfl, jj_m (i := 35) rfl rfl, by decide +kernel, by decide +kernel, by decide +kernel, by decide⟩
set_option maxRecDepth 20000 in
theorem okX4_counted : jj_okM mX4_counted := ⟨by decide +kernel, jj_m (i := 359) rfl rfl, rfl, jj_m (i := 35) rfl rfl, by decide +kernel, by decide +kernel, by decide +kernel, by decide⟩
set_option maxRecDepth 20000 in
theorem okX4_first : jj_okM mX4_first := ⟨by decide +kernel, jj_m (i := 363) rfl rfl, rfl, jj_m (i := 35) rfl rfl, by decide +kernel, by decide +kernel, by decide +kernel, by decide⟩
set_option maxRecDepth 20000 in
theorem okX4_fast : jj_okM mX4_fast := ⟨by decide +kernel, jj_m (i := 367) rfl rfl, rfl, jj_m (i := 35) rfl rfl, by decide +kernel, by decide +kernel, by decide +kernel, by decide⟩
set_option maxRecDepth 20000 in
theorem okX4_price : jj_okM mX4_price := ⟨by decide +kernel, jj_m (i := 371) rfl rfl, rfl, jj_m (i := 35) rfl rfl, by decide +kernel, by decide +kernel, by decide +kernel, by decide⟩
set_option maxRecDepth 20000 in
theorem okX4_weight : jj_okM mX4_weight := ⟨by decide +kernel, jj_m (i := 387) rfl rfl, rfl, jj_m (i := 35) rfl rfl, by decide +kernel, by decide +kernel, by decide +kernel, by decide⟩
set_option maxRecDepth 20000 in
theorem okX4_rank : jj_okM mX4_rank := ⟨by decide +kernel, jj_m (i := 395) rfl rfl, rfl, jj_m (i := 35) rfl rfl, by decide +kernel, by decide +kernel, by decide +kernel, by decide⟩
set_option maxRecDepth 20000 in
theorem okX4_more : jj_okM mX4_more := ⟨by decide +kernel, jj_m (i := 404) rfl rfl, rfl, jj_m (i := 35) rfl rfl, by decide +kernel, by decide +kernel, by decide +kernel, by decide⟩
set_option maxRecDepth 20000 in
theorem okX4_must : jj_okM mX4_must := ⟨by decide +kernel, jj_m (i := 412) rfl rfl, rfl, jj_m (i := 35) rfl rfl, by decide +kernel, by decide +kernel, by decide +kernel, by decide⟩
set_option maxRecDepth 20000 in
theorem okX4_span : jj_okM mX4_span := ⟨by decide +kernel, jj_m (i := 420) rfl rfl, rfl, jj_m (i := 35) rfl rfl, by decide +kernel, by decide +kernel, by decide +kernel, by decide⟩
set_option maxRecDepth 20000 in
theorem okX4_put : jj_okM mX4_put := ⟨by decide +kernel, jj_m (i := 441) rfl rfl, rfl, jj_m (i := 35) rfl rfl, by decide +kernel, by decide +kernel, by decide +kernel, by decide⟩
set_option maxRecDepth 20000 in
theorem okX4_worth : jj_okM mX4_worth := ⟨by decide +kernel, jj_m (i := 445) rfl rfl, rfl, jj_m (i := 35) rfl rfl, by decide +kernel, by decide +kernel, by decide +kernel, by decide⟩
set_option maxRecDepth 20000 in
theorem okX4_broken : jj_okM mX4_broken := ⟨by decide +kernel, jj_m (i := 453) rfl rfl, rfl, jj_m (i := 35) rfl rfl, by decide +kernel, by decide +kernel, by decide +kernel, by decide⟩
set_option maxRecDepth 20000 in
theorem okX4_share : jj_okM mX4_share := ⟨by decide +kernel, jj_m (i := 458) rfl rfl, rfl, jj_m (i := 35) rfl rfl, by decide +kernel, by decide +kernel, by decide +kernel, by decide⟩
set_option maxRecDepth 20000 in
theorem okX4_sharePrice : jj_okM mX4_sharePrice := ⟨by decide +kernel, jj_m (i := 534) rfl rfl, rfl, jj_m (i := 35) rfl rfl, by decide +kernel, by decide +kernel, by decide +kernel, by decide⟩
set_option maxRecDepth 20000 in
theorem okX4_holds : jj_okM mX4_holds := ⟨by decide +kernel, jj_m (i := 548) rfl rfl, rfl, jj_m (i := 35) rfl rfl, by decide +kernel, by decide +kernel, by decide +kernel, by decide⟩
set_option maxRecDepth 20000 in
theorem okX4_gap : jj_okM mX4_gap := ⟨by decide +kernel, jj_m (i := 560) rfl rfl, rfl, jj_m (i := 35) rfl rfl, by decide +kernel, by decide +kernel, by decide +kernel, by decide⟩
set_option maxRecDepth 20000 in
theorem okX4_told : jj_okM mX4_told := ⟨by decide +kernel, jj_m (i := 564) rfl rfl, rfl, jj_m (i := 35) rfl rfl, by decide +kernel, by decide +kernel, by decide +kernel, by decide⟩
set_option maxRecDepth 20000 in
theorem okX4_toldCount : jj_okM mX4_toldCount := ⟨by decide +kernel, jj_m (i := 568) rfl rfl, rfl, jj_m (i := 35) rfl rfl, by decide +kernel, by decide +kernel, by decide +kernel, by decide⟩
set_option maxRecDepth 20000 in
theorem okX4_isThing : jj_okM mX4_isThing := ⟨by decide +kernel, jj_m (i := 263) rfl rfl, rfl, jj_m (i := 35) rfl rfl, by decide +kernel, by decide +kernel, by decide +kernel, by decide⟩
set_option maxRecDepth 20000 in
theorem okX4_isRule : jj_okM mX4_isRule := ⟨by decide +kernel, jj_m (i := 279) rfl rfl, rfl, jj_m (i := 35) rfl rfl, by decide +kernel, by decide +kernel, by decide +kernel, by decide⟩
set_option maxRecDepth 20000 in
theorem okX4_isWorth : jj_okM mX4_isWorth := ⟨by decide +kernel, jj_m (i := 239) rfl rfl, rfl, jj_m (i := 35) rfl rfl, by decide +kernel, by decide +kernel, by decide +kernel, by decide⟩
set_option maxRecDepth 20000 in
theorem okX4_isCount : jj_okM mX4_isCount := ⟨by decide +kernel, jj_m (i := 242) rfl rfl, rfl, jj_m (i := 35) rfl rfl, by decide +kernel, by decide +kernel, by decide +kernel, by decide⟩
set_option maxRecDepth 20000 in
theorem okX4_isLimit : jj_okM mX4_isLimit := ⟨by decide +kernel, jj_m (i := 259) rfl rfl, rfl, jj_m (i := 35) rfl rfl, by decide +kernel, by decide +kernel, by decide +kernel, by decide⟩
set_option maxRecDepth 20000 in
theorem okX4_replace : jj_okM mX4_replace := ⟨by decide +kernel, jj_m (i := 283) rfl rfl, rfl, jj_m (i := 35) rfl rfl, by decide +kernel, by decide +kernel, by decide +kernel, by decide⟩
set_option maxRecDepth 20000 in
theorem okX4_markChanged : jj_okM mX4_markChanged := ⟨by decide +kernel, jj_m (i := 248) rfl rfl, rfl, jj_m (i := 35) rfl rfl, by decide +kernel, by decide +kernel, by decide +kernel, by decide⟩
set_option maxRecDepth 20000 in
theorem okX4_freshSurvey : jj_okM mX4_freshSurvey := ⟨by decide +kernel, jj_m (i := 299) rfl rfl, rfl, jj_m (i := 35) rfl rfl, by decide +kernel, by decide +kernel, by decide +kernel, by decide⟩
set_option maxRecDepth 20000 in
theorem okX4_freshCorners : jj_okM mX4_freshCorners := ⟨by decide +kernel, jj_m (i := 462) rfl rfl, rfl, jj_m (i := 35) rfl rfl, by decide +kernel, by decide +kernel, by decide +kernel, by decide⟩
set_option maxRecDepth 20000 in
theorem okX4_inLowestTerms : jj_okM mX4_inLowestTerms := ⟨by decide +kernel, jj_m (i := 526) rfl rfl, rfl, jj_m (i := 35) rfl rfl, by decide +kernel, by decide +kernel, by decide +kernel, by decide⟩
set_option maxRecDepth 20000 in
theorem okX4_commonDivisor : jj_okM mX4_commonDivisor := ⟨by decide +kernel, jj_m (i := 530) rfl rfl, rfl, jj_m (i := 35) rfl rfl, by decide +kernel, by decide +kernel, by decide +kernel, by decide⟩
set_option maxRecDepth 20000 in
theorem okX5_in : jj_okM mX5_in := ⟨by decide +kernel, jj_m (i := 681) rfl rfl, rfl, jj_m (i := 40) rfl rfl, by decide +kernel, by decide +kernel, by decide +kernel, by decide⟩
set_option maxRecDepth 20000 in
theorem okX5_isThing : jj_okM mX5_isThing := ⟨by decide +kernel, jj_m (i := 697) rfl rfl, rfl, jj_m (i := 40) rfl rfl, by decide +kernel, by decide +kernel, by decide +kernel, by decide⟩
set_option maxRecDepth 20000 in
theorem okX5_isRule : jj_okM mX5_isRule := ⟨by decide +kernel, jj_m (i := 705) rfl rfl, rfl, jj_m (i := 40) rfl rfl, by decide +kernel, by decide +kernel, by decide +kernel, by decide⟩
set_option maxRecDepth 20000 in
theorem okX5_isLimit : jj_okM mX5_isLimit := ⟨by decide +kernel, jj_m (i := 692) rfl rfl, rfl, jj_m (i := 40) rfl rfl, by decide +kernel, by decide +kernel, by decide +kernel, by decide⟩
set_option maxRecDepth 20000 in
theorem okX5_thing : jj_okM mX5_thing := ⟨by decide +kernel, jj_m (i := 676) rfl rfl, rfl, jj_m (i := 40) rfl rfl, by decide +kernel, by decide +kernel, by decide +kernel, by decide⟩
set_option maxRecDepth 20000 in
theorem okX5_rule : jj_okM mX5_rule := ⟨by decide +kernel, jj_m (i := 688) rfl rfl, rfl, jj_m (i := 40) rfl rfl, by decide +kernel, by decide +kernel, by decide +kernel, by decide⟩
set_option maxRecDepth 20000 in
theorem okX5_amount : jj_okM mX5_amount := ⟨by decide +kernel, jj_m (i := 701) rfl rfl, rfl, jj_m (i := 40) rfl rfl, by decide +kernel, by decide +kernel, by decide +kernel, by decide⟩
set_option maxRecDepth 20000 in
theorem okX5_on : jj_okM mX5_on := ⟨by decide +kernel, jj_m (i := 710) rfl rfl, rfl, jj_m (i := 40) rfl rfl, by decide +kernel, by decide +kernel, by decide +kernel, by decide⟩
set_option maxRecDepth 20000 in
theorem okX5_set : jj_okM mX5_set := ⟨by decide +kernel, jj_m (i := 714) rfl rfl, rfl, jj_m (i := 40) rfl rfl, by decide +kernel, by decide +kernel, by decide +kernel, by decide⟩
set_option maxRecDepth 20000 in
theorem okX5_isAs : jj_okM mX5_isAs := ⟨by decide +kernel, jj_m (i := 731) rfl rfl, rfl, jj_m (i := 40) rfl rfl, by decide +kernel, by decide +kernel, by decide +kernel, by decide⟩
set_option maxRecDepth 20000 in
theorem okX5_fits : jj_okM mX5_fits := ⟨by decide +kernel, jj_m (i := 727) rfl rfl, rfl, jj_m (i := 40) rfl rfl, by decide +kernel, by decide +kernel, by decide +kernel, by decide⟩
set_option maxRecDepth 20000 in
theorem okX5_valueOf : jj_okM mX5_valueOf := ⟨by decide +kernel, jj_m (i := 739) rfl rfl, rfl, jj_m (i := 40) rfl rfl, by decide +kernel, by decide +kernel, by decide +kernel, by decide⟩
set_option maxRecDepth 20000 in
theorem okX5_look : jj_okM mX5_look := ⟨by decide +kernel, jj_m (i := 723) rfl rfl, rfl, jj_m (i := 40) rfl rfl, by decide +kernel, by decide +kernel, by decide +kernel, by decide⟩
set_option maxRecDepth 20000 in
theorem okX5_take : jj_okM mX5_take := ⟨by decide +kernel, jj_m (i := 735) rfl rfl, rfl, jj_m (i := 40) rfl rfl, by decide +kernel, by decide +kernel, by decide +kernel, by decide⟩
set_option maxRecDepth 20000 in
theorem okX5_value : jj_okM mX5_value := ⟨by decide +kernel, jj_m (i := 718) rfl rfl, rfl, jj_m (i := 40) rfl rfl, by decide +kernel, by decide +kernel, by decide +kernel, by decide⟩
set_option maxRecDepth 20000 in
theorem okX5_counted : jj_okM mX5_counted := ⟨by decide +kernel, jj_m (i := 743) rfl rfl, rfl, jj_m (i := 40) rfl rfl, by decide +kernel, by decide +kernel, by decide +kernel, by decide⟩
set_option maxRecDepth 20000 in
theorem okX5_first : jj_okM mX5_first := ⟨by decide +kernel, jj_m (i := 747) rfl rfl, rfl, jj_m (i := 40) rfl rfl, by decide +kernel, by decide +kernel, by decide +kernel, by decide⟩
set_option maxRecDepth 20000 in
theorem okX5_fast : jj_okM mX5_fast := ⟨by decide +kernel, jj_m (i := 751) rfl rfl, rfl, jj_m (i := 40) rfl rfl, by decide +kernel, by decide +kernel, by decide +kernel, by decide⟩
set_option maxRecDepth 20000 in
theorem okX5_price : jj_okM mX5_price := ⟨by decide +kernel, jj_m (i := 755) rfl rfl, rfl, jj_m (i := 40) rfl rfl, by decide +kernel, by decide +kernel, by decide +kernel, by decide⟩
set_option maxRecDepth 20000 in
theorem okX5_weight : jj_okM mX5_weight := ⟨by decide +kernel, jj_m (i := 760) rfl rfl, rfl, jj_m (i := 40) rfl rfl, by decide +kernel, by decide +kernel, by decide +kernel, by decide⟩
set_option maxRecDepth 20000 in
theorem okX5_rank : jj_okM mX5_rank := ⟨by decide +kernel, jj_m (i := 764) rfl rfl, rfl, jj_m (i := 40) rfl rfl, by decide +kernel, by decide +kernel, by decide +kernel, by decide⟩
set_option maxRecDepth 20000 in
theorem okX5_more : jj_okM mX5_more := ⟨by decide +kernel, jj_m (i := 769) rfl rfl, rfl, jj_m (i := 40) rfl rfl, by decide +kernel, by decide +kernel, by decide +kernel, by decide⟩
set_option maxRecDepth 20000 in
theorem okX5_must : jj_okM mX5_must := ⟨by decide +kernel, jj_m (i := 773) rfl rfl, rfl, jj_m (i := 40) rfl rfl, by decide +kernel, by decide +kernel, by decide +kernel, by decide⟩
set_option maxRecDepth 20000 in
theorem okX5_floor : jj_okM mX5_floor := ⟨by decide +kernel, jj_m (i := 780) rfl rfl, rfl, jj_m (i := 40) rfl rfl, by decide +kernel, by decide +kernel, by decide +kernel, by decide⟩
set_option maxRecDepth 20000 in
theorem okX5_span : jj_okM mX5_span := ⟨by decide +kernel, jj_m (i := 777) rfl rfl, rfl, jj_m (i := 40) rfl rfl, by decide +kernel, by decide +kernel, by decide +kernel, by decide⟩
set_option maxRecDepth 20000 in
theorem okX5_put : jj_okM mX5_put := ⟨by decide +kernel, jj_m (i := 784) rfl rfl, rfl, jj_m (i := 40) rfl rfl, by decide +kernel, by decide +kernel, by decide +kernel, by decide⟩
set_option maxRecDepth 20000 in
theorem okX5_worth : jj_okM mX5_worth := ⟨by decide +kernel, jj_m (i := 788) rfl rfl, rfl, jj_m (i := 40) rfl rfl, by decide +kernel, by decide +kernel, by decide +kernel, by decide⟩
set_option maxRecDepth 20000 in
theorem okX5_broken : jj_okM mX5_broken := ⟨by decide +kernel, jj_m (i := 792) rfl rfl, rfl, jj_m (i := 40) rfl rfl, by decide +kernel, by decide +kernel, by decide +kernel, by decide⟩
set_option maxRecDepth 20000 in
theorem okX5_addRow : jj_okM mX5_addRow := ⟨by decide +kernel, jj_m (i := 808) rfl rfl, rfl, jj_m (i := 40) rfl rfl, by decide +kernel, by decide +kernel, by decide +kernel, by decide⟩
set_option maxRecDepth 20000 in
theorem okX5_rowsNow : jj_okM mX5_rowsNow := ⟨by decide +kernel, jj_m (i := 804) rfl rfl, rfl, jj_m (i := 40) rfl rfl, by decide +kernel, by decide +kernel, by decide +kernel, by decide⟩
set_option maxRecDepth 20000 in
theorem okX5_determinant : jj_okM mX5_determinant := ⟨by decide +kernel, jj_m (i := 816) rfl rfl, rfl, jj_m (i := 40) rfl rfl, by decide +kernel, by decide +kernel, by decide +kernel, by decide⟩
set_option maxRecDepth 20000 in
theorem okX5_isPriced : jj_okM mX5_isPriced := ⟨by decide +kernel, jj_m (i := 812) rfl rfl, rfl, jj_m (i := 40) rfl rfl, by decide +kernel, by decide +kernel, by decide +kernel, by decide⟩
set_option maxRecDepth 20000 in
theorem okX5_shares : jj_okM mX5_shares := ⟨by decide +kernel, jj_m (i := 800) rfl rfl, rfl, jj_m (i := 40) rfl rfl, by decide +kernel, by decide +kernel, by decide +kernel, by decide⟩
set_option maxRecDepth 20000 in
theorem okX5_part : jj_okM mX5_part := ⟨by decide +kernel, jj_m (i := 819) rfl rfl, rfl, jj_m (i := 40) rfl rfl, by decide +kernel, by decide +kernel, by decide +kernel, by decide⟩
set_option maxRecDepth 20000 in
theorem okX5_share : jj_okM mX5_share := ⟨by decide +kernel, jj_m (i := 796) rfl rfl, rfl, jj_m (i := 40) rfl rfl, by decide +kernel, by decide +kernel, by decide +kernel, by decide⟩
set_option maxRecDepth 20000 in
theorem okX5_isPrice : jj_okM mX5_isPrice := ⟨by decide +kernel, jj_m (i := 827) rfl rfl, rfl, jj_m (i := 40) rfl rfl, by decide +kernel, by decide +kernel, by decide +kernel, by decide⟩
set_option maxRecDepth 20000 in
theorem okX5_sharePrice : jj_okM mX5_sharePrice := ⟨by decide +kernel, jj_m (i := 823) rfl rfl, rfl, jj_m (i := 40) rfl rfl, by decide +kernel, by decide +kernel, by decide +kernel, by decide⟩
set_option maxRecDepth 20000 in
theorem okX5_holds : jj_okM mX5_holds := ⟨by decide +kernel, jj_m (i := 832) rfl rfl, rfl, jj_m (i := 40) rfl rfl, by decide +kernel, by decide +kernel, by decide +kernel, by decide⟩
set_option maxRecDepth 20000 in
theorem okX5_gap : jj_okM mX5_gap := ⟨by decide +kernel, jj_m (i := 837) rfl rfl, rfl, jj_m (i := 40) rfl rfl, by decide +kernel, by decide +kernel, by decide +kernel, by decide⟩
set_option maxRecDepth 20000 in
theorem okX5_told : jj_okM mX5_told := ⟨by decide +kernel, jj_m (i := 841) rfl rfl, rfl, jj_m (i := 40) rfl rfl, by decide +kernel, by decide +kernel, by decide +kernel, by decide⟩
set_option maxRecDepth 20000 in
theorem okJ6_bitCount_0f7a4 : jj_okM mJ6_bitCount_0f7a4 := ⟨by decide +kernel, jj_m (i := 483) rfl rfl, rfl, jj_m (i := 43) rfl rfl, by decide +kernel, by decide +kernel, by decide +kernel, by decide⟩
set_option maxRecDepth 20000 in
theorem okJ9_floorDiv_7cf53 : jj_okM mJ9_floorDiv_7cf53 := ⟨by decide +kernel, jj_m (i := 432) rfl rfl, rfl, jj_m (i := 42) rfl rfl, by decide +kernel, by decide +kernel, by decide +kernel, by decide⟩
set_option maxRecDepth 20000 in
theorem okJ9_abs_067f4 : jj_okM mJ9_abs_067f4 := ⟨by decide +kernel, jj_m (i := 504) rfl rfl, rfl, jj_m (i := 42) rfl rfl, by decide +kernel, by decide +kernel, by decide +kernel, by decide⟩
set_option maxRecDepth 20000 in
theorem okJ9_max_7cf53 : jj_okM mJ9_max_7cf53 := ⟨by decide +kernel, jj_m (i := 339) rfl rfl, rfl, jj_m (i := 42) rfl rfl, by decide +kernel, by decide +kernel, by decide +kernel, by decide⟩
set_option maxRecDepth 20000 in
theorem okJ9_max_f86c9 : jj_okM mJ9_max_f86c9 := ⟨by decide +kernel, jj_m (i := 515) rfl rfl, rfl, jj_m (i := 42) rfl rfl, by decide +kernel, by decide +kernel, by decide +kernel, by decide⟩
set_option maxRecDepth 20000 in
theorem okJ9_min_7cf53 : jj_okM mJ9_min_7cf53 := ⟨by decide +kernel, jj_m (i := 331) rfl rfl, rfl, jj_m (i := 42) rfl rfl, by decide +kernel, by decide +kernel, by decide +kernel, by decide⟩
set_option maxRecDepth 20000 in
theorem okJ9_min_f86c9 : jj_okM mJ9_min_f86c9 := ⟨by decide +kernel, jj_m (i := 556) rfl rfl, rfl, jj_m (i := 42) rfl rfl, by decide +kernel, by decide +kernel, by decide +kernel, by decide⟩
set_option maxRecDepth 20000 in
theorem okJ7_fill_53178 : jj_okM mJ7_fill_53178 := ⟨by decide +kernel, jj_m (i := 307) rfl rfl, rfl, jj_m (i := 41) rfl rfl, by decide +kernel, by decide +kernel, by decide +kernel, by decide⟩
set_option maxRecDepth 20000 in
theorem jj_mv_ok_1 : ∀ e ∈ jj_mvL 1, jj_okM e.2 ∧ Cond.methodLink (jj_R 1) e.1 e.2.1.1 ∈ jj_wl ∧ Cond.instanceMethod e.2.1.1 ∈ jj_wl ∧ Cond.selects e.2.1.1.cls e.2.1.1 e.2.1.1 ∈ jj_wl := List.forall_mem_cons.mpr ⟨⟨okX1_tryCorner, jj_m (i := 477) rfl rfl, jj_m (i := 479) rfl rfl, jj_m (i := 13) rfl rfl⟩, List.forall_mem_cons.mpr ⟨⟨okX0_countsForShares, jj_m (i := 473) rfl rfl, jj_m (i := 474) rfl rfl, jj_m (i := 475) rfl rfl⟩, List.forall_mem_cons.mpr ⟨⟨okX1_writeEquations, jj_m (i := 487) rfl rfl, jj_m (i := 489) rfl rfl, jj_m (i := 14) rfl rfl⟩, List.forall_mem_cons.mpr ⟨⟨okX1_writePrices, jj_m (i := 494) rfl rfl, jj_m (i := 496) rfl rfl, jj_m (i := 15) rfl rfl⟩, List.forall_mem_cons.mpr ⟨⟨okX1_boundAt, jj_m (i := 505) rfl rfl, jj_m (i := 507) rfl rfl, jj_m (i := 17) rfl rfl⟩, List.forall_mem_cons.mpr ⟨⟨okX1_swapDues, jj_m (i := 498) rfl rfl, jj_m (i := 500) rfl rfl, jj_m (i := 16) rfl rfl⟩, List.forall_mem_cons.mpr ⟨⟨okX1_slope, jj_m (i := 509) rfl rfl, jj_m (i := 510) rfl rfl, jj_m (i := 511) rfl rfl⟩, List.forall_mem_cons.mpr ⟨⟨okX1_boundAbove, jj_m (i := 520) rfl rfl, jj_m (i := 522) rfl rfl, jj_m (i := 18) rfl rfl⟩, List.forall_mem_cons.mpr ⟨⟨okX1_slopeBelow, jj_m (i := 540) rfl rfl, jj_m (i := 542) rfl rfl, jj_m (i := 19) rfl rfl⟩, fun _ h => absurd h List.not_mem_nil⟩⟩⟩⟩⟩⟩⟩⟩⟩
set_option maxRecDepth 20000 in
theorem jj_mv_ok_2 : ∀ e ∈ jj_mvL 2, jj_okM e.2 ∧ Cond.methodLink (jj_R 2) e.1 e.2.1.1 ∈ jj_wl ∧ Cond.instanceMethod e.2.1.1 ∈ jj_wl ∧ Cond.selects e.2.1.1.cls e.2.1.1 e.2.1.1 ∈ jj_wl := List.forall_mem_cons.mpr ⟨⟨okX3_begin, jj_m (i := 308) rfl rfl, jj_m (i := 309) rfl rfl, jj_m (i := 310) rfl rfl⟩, List.forall_mem_cons.mpr ⟨⟨okX3_plans, jj_m (i := 313) rfl rfl, jj_m (i := 314) rfl rfl, jj_m (i := 315) rfl rfl⟩, List.forall_mem_cons.mpr ⟨⟨okX2_lookAt, jj_m (i := 317) rfl rfl, jj_m (i := 319) rfl rfl, jj_m (i := 5) rfl rfl⟩, List.forall_mem_cons.mpr ⟨⟨okX3_step, jj_m (i := 348) rfl rfl, jj_m (i := 349) rfl rfl, jj_m (i := 350) rfl rfl⟩, List.forall_mem_cons.mpr ⟨⟨okX3_firstOver, jj_m (i := 321) rfl rfl, jj_m (i := 322) rfl rfl, jj_m (i := 323) rfl rfl⟩, List.forall_mem_cons.mpr ⟨⟨okX2_noteFitting, jj_m (i := 333) rfl rfl, jj_m (i := 335) rfl rfl, jj_m (i := 7) rfl rfl⟩, List.forall_mem_cons.mpr ⟨⟨okX2_noteBetter, jj_m (i := 340) rfl rfl, jj_m (i := 342) rfl rfl, jj_m (i := 8) rfl rfl⟩, List.forall_mem_cons.mpr ⟨⟨okX2_noteEqual, jj_m (i := 344) rfl rfl, jj_m (i := 346) rfl rfl, jj_m (i := 9) rfl rfl⟩, List.forall_mem_cons.mpr ⟨⟨okX2_gainWithout, jj_m (i := 400) rfl rfl, jj_m (i := 389) rfl rfl, jj_m (i := 390) rfl rfl⟩, List.forall_mem_cons.mpr ⟨⟨okX2_greatestWith, jj_m (i := 425) rfl rfl, jj_m (i := 414) rfl rfl, jj_m (i := 415) rfl rfl⟩, List.forall_mem_cons.mpr ⟨⟨okX2_restWith, jj_m (i := 426) rfl rfl, jj_m (i := 428) rfl rfl, jj_m (i := 11) rfl rfl⟩, fun _ h => absurd h List.not_mem_nil⟩⟩⟩⟩⟩⟩⟩⟩⟩⟩⟩
set_option maxRecDepth 20000 in
theorem jj_mv_ok_3 : ∀ e ∈ jj_mvL 3, jj_okM e.2 ∧ Cond.methodLink (jj_R 3) e.1 e.2.1.1 ∈ jj_wl ∧ Cond.instanceMethod e.2.1.1 ∈ jj_wl ∧ Cond.selects e.2.1.1.cls e.2.1.1 e.2.1.1 ∈ jj_wl := List.forall_mem_cons.mpr ⟨⟨okX3_shift, jj_m (i := 352) rfl rfl, jj_m (i := 354) rfl rfl, jj_m (i := 10) rfl rfl⟩, List.forall_mem_cons.mpr ⟨⟨okX3_load, jj_m (i := 325) rfl rfl, jj_m (i := 327) rfl rfl, jj_m (i := 6) rfl rfl⟩, List.forall_mem_cons.mpr ⟨⟨okX3_plans, jj_m (i := 381) rfl rfl, jj_m (i := 314) rfl rfl, jj_m (i := 315) rfl rfl⟩, List.forall_mem_cons.mpr ⟨⟨okX3_firstOver, jj_m (i := 382) rfl rfl, jj_m (i := 322) rfl rfl, jj_m (i := 323) rfl rfl⟩, List.forall_mem_cons.mpr ⟨⟨okX3_step, jj_m (i := 383) rfl rfl, jj_m (i := 349) rfl rfl, jj_m (i := 350) rfl rfl⟩, fun _ h => absurd h List.not_mem_nil⟩⟩⟩⟩⟩
set_option maxRecDepth 20000 in
theorem jj_mv_ok_4 : ∀ e ∈ jj_mvL 4, jj_okM e.2 ∧ Cond.methodLink (jj_R 4) e.1 e.2.1.1 ∈ jj_wl ∧ Cond.instanceMethod e.2.1.1 ∈ jj_wl ∧ Cond.selects e.2.1.1.cls e.2.1.1 e.2.1.1 ∈ jj_wl := List.forall_mem_cons.mpr ⟨⟨okX4_markChanged, jj_m (i := 245) rfl rfl, jj_m (i := 247) rfl rfl, jj_m (i := 0) rfl rfl⟩, List.forall_mem_cons.mpr ⟨⟨okX0_addThing, jj_m (i := 249) rfl rfl, jj_m (i := 250) rfl rfl, jj_m (i := 251) rfl rfl⟩, List.forall_mem_cons.mpr ⟨⟨okX4_isThing, jj_m (i := 260) rfl rfl, jj_m (i := 262) rfl rfl, jj_m (i := 1) rfl rfl⟩, List.forall_mem_cons.mpr ⟨⟨okX0_addRule, jj_m (i := 264) rfl rfl, jj_m (i := 265) rfl rfl, jj_m (i := 266) rfl rfl⟩, List.forall_mem_cons.mpr ⟨⟨okX0_pair, jj_m (i := 268) rfl rfl, jj_m (i := 269) rfl rfl, jj_m (i := 270) rfl rfl⟩, List.forall_mem_cons.mpr ⟨⟨okX4_isRule, jj_m (i := 276) rfl rfl, jj_m (i := 278) rfl rfl, jj_m (i := 2) rfl rfl⟩, List.forall_mem_cons.mpr ⟨⟨okX4_replace, jj_m (i := 280) rfl rfl, jj_m (i := 282) rfl rfl, jj_m (i := 3) rfl rfl⟩, List.forall_mem_cons.mpr ⟨⟨okX4_freshSurvey, jj_m (i := 296) rfl rfl, jj_m (i := 298) rfl rfl, jj_m (i := 4) rfl rfl⟩, List.forall_mem_cons.mpr ⟨⟨okX3_begin, jj_m (i := 372) rfl rfl, jj_m (i := 309) rfl rfl, jj_m (i := 310) rfl rfl⟩, List.forall_mem_cons.mpr ⟨⟨okX3_loosen, jj_m (i := 373) rfl rfl, jj_m (i := 374) rfl rfl, jj_m (i := 375) rfl rfl⟩, List.forall_mem_cons.mpr ⟨⟨okX3_greatestFitting, jj_m (i := 377) rfl rfl, jj_m (i := 378) rfl rfl, jj_m (i := 379) rfl rfl⟩, List.forall_mem_cons.mpr ⟨⟨okX2_gainWithout, jj_m (i := 388) rfl rfl, jj_m (i := 389) rfl rfl, jj_m (i := 390) rfl rfl⟩, List.forall_mem_cons.mpr ⟨⟨okX2_rulesAhead, jj_m (i := 396) rfl rfl, jj_m (i := 397) rfl rfl, jj_m (i := 398) rfl rfl⟩, List.forall_mem_cons.mpr ⟨⟨okX3_allowOneMore, jj_m (i := 405) rfl rfl, jj_m (i := 406) rfl rfl, jj_m (i := 407) rfl rfl⟩, List.forall_mem_cons.mpr ⟨⟨okX2_greatestWith, jj_m (i := 413) rfl rfl, jj_m (i := 414) rfl rfl, jj_m (i := 415) rfl rfl⟩, List.forall_mem_cons.mpr ⟨⟨okX2_spanTop, jj_m (i := 421) rfl rfl, jj_m (i := 422) rfl rfl, jj_m (i := 423) rfl rfl⟩, List.forall_mem_cons.mpr ⟨⟨okX2_spanBottom, jj_m (i := 434) rfl rfl, jj_m (i := 435) rfl rfl, jj_m (i := 436) rfl rfl⟩, List.forall_mem_cons.mpr ⟨⟨okX3_goTo, jj_m (i := 446) rfl rfl, jj_m (i := 447) rfl rfl, jj_m (i := 448) rfl rfl⟩, List.forall_mem_cons.mpr ⟨⟨okX3_firstOver, jj_m (i := 454) rfl rfl, jj_m (i := 322) rfl rfl, jj_m (i := 323) rfl rfl⟩, List.forall_mem_cons.mpr ⟨⟨okX4_freshCorners, jj_m (i := 459) rfl rfl, jj_m (i := 461) rfl rfl, jj_m (i := 12) rfl rfl⟩, List.forall_mem_cons.mpr ⟨⟨okX1_leastBound, jj_m (i := 516) rfl rfl, jj_m (i := 517) rfl rfl, jj_m (i := 518) rfl rfl⟩, List.forall_mem_cons.mpr ⟨⟨okX1_leastBoundFlattest, jj_m (i := 536) rfl rfl, jj_m (i := 537) rfl rfl, jj_m (i := 538) rfl rfl⟩, List.forall_mem_cons.mpr ⟨⟨okX1_slope, jj_m (i := 544) rfl rfl, jj_m (i := 510) rfl rfl, jj_m (i := 511) rfl rfl⟩, List.forall_mem_cons.mpr ⟨⟨okX1_reach, jj_m (i := 549) rfl rfl, jj_m (i := 550) rfl rfl, jj_m (i := 551) rfl rfl⟩, List.forall_mem_cons.mpr ⟨⟨okX4_toldCount, jj_m (i := 565) rfl rfl, jj_m (i := 567) rfl rfl, jj_m (i := 20) rfl rfl⟩, List.forall_mem_cons.mpr ⟨⟨okX0_rulesOn, jj_m (i := 569) rfl rfl, jj_m (i := 570) rfl rfl, jj_m (i := 571) rfl rfl⟩, List.forall_mem_cons.mpr ⟨⟨okX2_lookAtAll, jj_m (i := 300) rfl rfl, jj_m (i := 301) rfl rfl, jj_m (i := 302) rfl rfl⟩, List.forall_mem_cons.mpr ⟨⟨okX1_find, jj_m (i := 463) rfl rfl, jj_m (i := 464) rfl rfl, jj_m (i := 465) rfl rfl⟩, fun _ h => absurd h List.not_mem_nil⟩⟩⟩⟩⟩⟩⟩⟩⟩⟩⟩⟩⟩⟩⟩⟩⟩⟩⟩⟩⟩⟩⟩⟩⟩⟩⟩⟩
set_option maxRecDepth 20000 in
theorem jj_mv_ok_5 : ∀ e ∈ jj_mvL 5, jj_okM e.2 ∧ Cond.methodLink (jj_R 5) e.1 e.2.1.1 ∈ jj_wl ∧ Cond.instanceMethod e.2.1.1 ∈ jj_wl ∧ Cond.selects e.2.1.1.cls e.2.1.1 e.2.1.1 ∈ jj_wl := List.forall_mem_cons.mpr ⟨⟨okX5_isThing, jj_m (i := 694) rfl rfl, jj_m (i := 696) rfl rfl, jj_m (i := 21) rfl rfl⟩, List.forall_mem_cons.mpr ⟨⟨okX5_isRule, jj_m (i := 702) rfl rfl, jj_m (i := 704) rfl rfl, jj_m (i := 22) rfl rfl⟩, List.forall_mem_cons.mpr ⟨⟨okX5_isAs, jj_m (i := 728) rfl rfl, jj_m (i := 730) rfl rfl, jj_m (i := 25) rfl rfl⟩, List.forall_mem_cons.mpr ⟨⟨okX5_fits, jj_m (i := 724) rfl rfl, jj_m (i := 726) rfl rfl, jj_m (i := 24) rfl rfl⟩, List.forall_mem_cons.mpr ⟨⟨okX5_take, jj_m (i := 732) rfl rfl, jj_m (i := 734) rfl rfl, jj_m (i := 26) rfl rfl⟩, List.forall_mem_cons.mpr ⟨⟨okX5_valueOf, jj_m (i := 736) rfl rfl, jj_m (i := 738) rfl rfl, jj_m (i := 27) rfl rfl⟩, List.forall_mem_cons.mpr ⟨⟨okX5_look, jj_m (i := 720) rfl rfl, jj_m (i := 722) rfl rfl, jj_m (i := 23) rfl rfl⟩, List.forall_mem_cons.mpr ⟨⟨okX5_value, jj_m (i := 756) rfl rfl, jj_m (i := 716) rfl rfl, jj_m (i := 717) rfl rfl⟩, List.forall_mem_cons.mpr ⟨⟨okX5_weight, jj_m (i := 765) rfl rfl, jj_m (i := 758) rfl rfl, jj_m (i := 759) rfl rfl⟩, List.forall_mem_cons.mpr ⟨⟨okX5_addRow, jj_m (i := 805) rfl rfl, jj_m (i := 807) rfl rfl, jj_m (i := 30) rfl rfl⟩, List.forall_mem_cons.mpr ⟨⟨okX5_determinant, jj_m (i := 813) rfl rfl, jj_m (i := 815) rfl rfl, jj_m (i := 32) rfl rfl⟩, List.forall_mem_cons.mpr ⟨⟨okX5_rowsNow, jj_m (i := 801) rfl rfl, jj_m (i := 803) rfl rfl, jj_m (i := 29) rfl rfl⟩, List.forall_mem_cons.mpr ⟨⟨okX5_isPriced, jj_m (i := 809) rfl rfl, jj_m (i := 811) rfl rfl, jj_m (i := 31) rfl rfl⟩, List.forall_mem_cons.mpr ⟨⟨okX5_shares, jj_m (i := 797) rfl rfl, jj_m (i := 799) rfl rfl, jj_m (i := 28) rfl rfl⟩, List.forall_mem_cons.mpr ⟨⟨okX5_isPrice, jj_m (i := 824) rfl rfl, jj_m (i := 826) rfl rfl, jj_m (i := 33) rfl rfl⟩, fun _ h => absurd h List.not_mem_nil⟩⟩⟩⟩⟩⟩⟩⟩⟩⟩⟩⟩⟩⟩⟩
set_option maxRecDepth 20000 in
theorem jj_mv_ok_8 : ∀ e ∈ jj_mvL 8, jj_okM e.2 ∧ Cond.methodLink (jj_R 8) e.1 e.2.1.1 ∈ jj_wl ∧ Cond.instanceMethod e.2.1.1 ∈ jj_wl ∧ Cond.selects e.2.1.1.cls e.2.1.1 e.2.1.1 ∈ jj_wl := List.forall_mem_cons.mpr ⟨⟨okX4_thing, jj_m (i := 233) rfl rfl, jj_m (i := 234) rfl rfl, jj_m (i := 235) rfl rfl⟩, List.forall_mem_cons.mpr ⟨⟨okX5_thing, jj_m (i := 673) rfl rfl, jj_m (i := 674) rfl rfl, jj_m (i := 675) rfl rfl⟩, List.forall_mem_cons.mpr ⟨⟨okX4_rule, jj_m (i := 253) rfl rfl, jj_m (i := 254) rfl rfl, jj_m (i := 255) rfl rfl⟩, List.forall_mem_cons.mpr ⟨⟨okX5_rule, jj_m (i := 685) rfl rfl, jj_m (i := 686) rfl rfl, jj_m (i := 687) rfl rfl⟩, List.forall_mem_cons.mpr ⟨⟨okX4_amount, jj_m (i := 272) rfl rfl, jj_m (i := 273) rfl rfl, jj_m (i := 274) rfl rfl⟩, List.forall_mem_cons.mpr ⟨⟨okX5_amount, jj_m (i := 698) rfl rfl, jj_m (i := 699) rfl rfl, jj_m (i := 700) rfl rfl⟩, List.forall_mem_cons.mpr ⟨⟨okX4_on, jj_m (i := 284) rfl rfl, jj_m (i := 285) rfl rfl, jj_m (i := 286) rfl rfl⟩, List.forall_mem_cons.mpr ⟨⟨okX5_on, jj_m (i := 707) rfl rfl, jj_m (i := 708) rfl rfl, jj_m (i := 709) rfl rfl⟩, List.forall_mem_cons.mpr ⟨⟨okX4_set, jj_m (i := 288) rfl rfl, jj_m (i := 289) rfl rfl, jj_m (i := 290) rfl rfl⟩, List.forall_mem_cons.mpr ⟨⟨okX5_set, jj_m (i := 711) rfl rfl, jj_m (i := 712) rfl rfl, jj_m (i := 713) rfl rfl⟩, List.forall_mem_cons.mpr ⟨⟨okX4_value, jj_m (i := 292) rfl rfl, jj_m (i := 293) rfl rfl, jj_m (i := 294) rfl rfl⟩, List.forall_mem_cons.mpr ⟨⟨okX5_value, jj_m (i := 715) rfl rfl, jj_m (i := 716) rfl rfl, jj_m (i := 717) rfl rfl⟩, List.forall_mem_cons.mpr ⟨⟨okX4_counted, jj_m (i := 356) rfl rfl, jj_m (i := 357) rfl rfl, jj_m (i := 358) rfl rfl⟩, List.forall_mem_cons.mpr ⟨⟨okX5_counted, jj_m (i := 740) rfl rfl, jj_m (i := 741) rfl rfl, jj_m (i := 742) rfl rfl⟩, List.forall_mem_cons.mpr ⟨⟨okX4_first, jj_m (i := 360) rfl rfl, jj_m (i := 361) rfl rfl, jj_m (i := 362) rfl rfl⟩, List.forall_mem_cons.mpr ⟨⟨okX5_first, jj_m (i := 744) rfl rfl, jj_m (i := 745) rfl rfl, jj_m (i := 746) rfl rfl⟩, List.forall_mem_cons.mpr ⟨⟨okX4_fast, jj_m (i := 364) rfl rfl, jj_m (i := 365) rfl rfl, jj_m (i := 366) rfl rfl⟩, List.forall_mem_cons.mpr ⟨⟨okX5_fast, jj_m (i := 748) rfl rfl, jj_m (i := 749) rfl rfl, jj_m (i := 750) rfl rfl⟩, List.forall_mem_cons.mpr ⟨⟨okX4_price, jj_m (i := 368) rfl rfl, jj_m (i := 369) rfl rfl, jj_m (i := 370) rfl rfl⟩, List.forall_mem_cons.mpr ⟨⟨okX5_price, jj_m (i := 752) rfl rfl, jj_m (i := 753) rfl rfl, jj_m (i := 754) rfl rfl⟩, List.forall_mem_cons.mpr ⟨⟨okX4_weight, jj_m (i := 384) rfl rfl, jj_m (i := 385) rfl rfl, jj_m (i := 386) rfl rfl⟩, List.forall_mem_cons.mpr ⟨⟨okX5_weight, jj_m (i := 757) rfl rfl, jj_m (i := 758) rfl rfl, jj_m (i := 759) rfl rfl⟩, List.forall_mem_cons.mpr ⟨⟨okX4_rank, jj_m (i := 392) rfl rfl, jj_m (i := 393) rfl rfl, jj_m (i := 394) rfl rfl⟩, List.forall_mem_cons.mpr ⟨⟨okX5_rank, jj_m (i := 761) rfl rfl, jj_m (i := 762) rfl rfl, jj_m (i := 763) rfl rfl⟩, List.forall_mem_cons.mpr ⟨⟨okX4_more, jj_m (i := 401) rfl rfl, jj_m (i := 402) rfl rfl, jj_m (i := 403) rfl rfl⟩, List.forall_mem_cons.mpr ⟨⟨okX5_more, jj_m (i := 766) rfl rfl, jj_m (i := 767) rfl rfl, jj_m (i := 768) rfl rfl⟩, List.forall_mem_cons.mpr ⟨⟨okX4_must, jj_m (i := 409) rfl rfl, jj_m (i := 410) rfl rfl, jj_m (i := 411) rfl rfl⟩, List.forall_mem_cons.mpr ⟨⟨okX5_must, jj_m (i := 770) rfl rfl, jj_m (i := 771) rfl rfl, jj_m (i := 772) rfl rfl⟩, List.forall_mem_cons.mpr ⟨⟨okX4_span, jj_m (i := 417) rfl rfl, jj_m (i := 418) rfl rfl, jj_m (i := 419) rfl rfl⟩, List.forall_mem_cons.mpr ⟨⟨okX5_span, jj_m (i := 774) rfl rfl, jj_m (i := 775) rfl rfl, jj_m (i := 776) rfl rfl⟩, List.forall_mem_cons.mpr ⟨⟨okX4_put, jj_m (i := 438) rfl rfl, jj_m (i := 439) rfl rfl, jj_m (i := 440) rfl rfl⟩, List.forall_mem_cons.mpr ⟨⟨okX5_put, jj_m (i := 781) rfl rfl, jj_m (i := 782) rfl rfl, jj_m (i := 783) rfl rfl⟩, List.forall_mem_cons.mpr ⟨⟨okX4_worth, jj_m (i := 442) rfl rfl, jj_m (i := 443) rfl rfl, jj_m (i := 444) rfl rfl⟩, List.forall_mem_cons.mpr ⟨⟨okX5_worth, jj_m (i := 785) rfl rfl, jj_m (i := 786) rfl rfl, jj_m (i := 787) rfl rfl⟩, List.forall_mem_cons.mpr ⟨⟨okX4_broken, jj_m (i := 450) rfl rfl, jj_m (i := 451) rfl rfl, jj_m (i := 452) rfl rfl⟩, List.forall_mem_cons.mpr ⟨⟨okX5_broken, jj_m (i := 789) rfl rfl, jj_m (i := 790) rfl rfl, jj_m (i := 791) rfl rfl⟩, List.forall_mem_cons.mpr ⟨⟨okX4_share, jj_m (i := 455) rfl rfl, jj_m (i := 456) rfl rfl, jj_m (i := 457) rfl rfl⟩, List.forall_mem_cons.mpr ⟨⟨okX5_share, jj_m (i := 793) rfl rfl, jj_m (i := 794) rfl rfl, jj_m (i := 795) rfl rfl⟩, List.forall_mem_cons.mpr ⟨⟨okX4_sharePrice, jj_m (i := 531) rfl rfl, jj_m (i := 532) rfl rfl, jj_m (i := 533) rfl rfl⟩, List.forall_mem_cons.mpr ⟨⟨okX5_sharePrice, jj_m (i := 820) rfl rfl, jj_m (i := 821) rfl rfl, jj_m (i := 822) rfl rfl⟩, List.forall_mem_cons.mpr ⟨⟨okX4_holds, jj_m (i := 545) rfl rfl, jj_m (i := 546) rfl rfl, jj_m (i := 547) rfl rfl⟩, List.forall_mem_cons.mpr ⟨⟨okX5_holds, jj_m (i := 829) rfl rfl, jj_m (i := 830) rfl rfl, jj_m (i := 831) rfl rfl⟩, List.forall_mem_cons.mpr ⟨⟨okX4_gap, jj_m (i := 557) rfl rfl, jj_m (i := 558) rfl rfl, jj_m (i := 559) rfl rfl⟩, List.forall_mem_cons.mpr ⟨⟨okX5_gap, jj_m (i := 834) rfl rfl, jj_m (i := 835) rfl rfl, jj_m (i := 836) rfl rfl⟩, List.forall_mem_cons.mpr ⟨⟨okX4_told, jj_m (i := 561) rfl rfl, jj_m (i := 562) rfl rfl, jj_m (i := 563) rfl rfl⟩, List.forall_mem_cons.mpr ⟨⟨okX5_told, jj_m (i := 838) rfl rfl, jj_m (i := 839) rfl rfl, jj_m (i := 840) rfl rfl⟩, fun _ h => absurd h List.not_mem_nil⟩⟩⟩⟩⟩⟩⟩⟩⟩⟩⟩⟩⟩⟩⟩⟩⟩⟩⟩⟩⟩⟩⟩⟩⟩⟩⟩⟩⟩⟩⟩⟩⟩⟩⟩⟩⟩⟩⟩⟩⟩⟩⟩⟩⟩⟩
theorem jj_mv_ok : ∀ c : Nat, ∀ e ∈ jj_mvL c, jj_okM e.2 ∧ Cond.methodLink (jj_R c) e.1 e.2.1.1 ∈ jj_wl ∧ Cond.instanceMethod e.2.1.1 ∈ jj_wl ∧ Cond.selects e.2.1.1.cls e.2.1.1 e.2.1.1 ∈ jj_wl := fun c => match c with
  | 0 => fun _ h => absurd h List.not_mem_nil
  | 1 => jj_mv_ok_1
  | 2 => jj_mv_ok_2
  | 3 => jj_mv_ok_3
  | 4 => jj_mv_ok_4
  | 5 => jj_mv_ok_5
  | 6 => fun _ h => absurd h List.not_mem_nil
  | 7 => fun _ h => absurd h List.not_mem_nil
  | 8 => jj_mv_ok_8
  | 9 => fun _ h => absurd h List.not_mem_nil
  | _ + 10 => fun _ h => absurd h List.not_mem_nil
set_option maxRecDepth 20000 in
theorem jj_ms_ok_1 : ∀ e ∈ jj_msL 1, jj_okM e.2 ∧ Cond.methodLink (jj_R 1) e.1 e.2.1.1 ∈ jj_wl ∧ Cond.static e.2.1.1 ∈ jj_wl := List.forall_mem_cons.mpr ⟨⟨okX1_allCount, jj_m (i := 467) rfl rfl, jj_m (i := 468) rfl rfl⟩, List.forall_mem_cons.mpr ⟨⟨okX1_has, jj_m (i := 470) rfl rfl, jj_m (i := 471) rfl rfl⟩, List.forall_mem_cons.mpr ⟨⟨okJ6_bitCount_0f7a4, jj_m (i := 481) rfl rfl, jj_m (i := 482) rfl rfl⟩, List.forall_mem_cons.mpr ⟨⟨okX1_determinant, jj_m (i := 491) rfl rfl, jj_m (i := 492) rfl rfl⟩, List.forall_mem_cons.mpr ⟨⟨okJ9_abs_067f4, jj_m (i := 502) rfl rfl, jj_m (i := 503) rfl rfl⟩, List.forall_mem_cons.mpr ⟨⟨okJ9_max_f86c9, jj_m (i := 513) rfl rfl, jj_m (i := 514) rfl rfl⟩, List.forall_mem_cons.mpr ⟨⟨okJ9_min_f86c9, jj_m (i := 554) rfl rfl, jj_m (i := 555) rfl rfl⟩, fun _ h => absurd h List.not_mem_nil⟩⟩⟩⟩⟩⟩⟩
set_option maxRecDepth 20000 in
theorem jj_ms_ok_2 : ∀ e ∈ jj_msL 2, jj_okM e.2 ∧ Cond.methodLink (jj_R 2) e.1 e.2.1.1 ∈ jj_wl ∧ Cond.static e.2.1.1 ∈ jj_wl := List.forall_mem_cons.mpr ⟨⟨okJ7_fill_53178, jj_m (i := 305) rfl rfl, jj_m (i := 306) rfl rfl⟩, List.forall_mem_cons.mpr ⟨⟨okJ9_max_7cf53, jj_m (i := 337) rfl rfl, jj_m (i := 338) rfl rfl⟩, List.forall_mem_cons.mpr ⟨⟨okJ9_floorDiv_7cf53, jj_m (i := 430) rfl rfl, jj_m (i := 431) rfl rfl⟩, List.forall_mem_cons.mpr ⟨⟨okJ9_min_7cf53, jj_m (i := 433) rfl rfl, jj_m (i := 330) rfl rfl⟩, fun _ h => absurd h List.not_mem_nil⟩⟩⟩⟩
set_option maxRecDepth 20000 in
theorem jj_ms_ok_3 : ∀ e ∈ jj_msL 3, jj_okM e.2 ∧ Cond.methodLink (jj_R 3) e.1 e.2.1.1 ∈ jj_wl ∧ Cond.static e.2.1.1 ∈ jj_wl := List.forall_mem_cons.mpr ⟨⟨okJ9_min_7cf53, jj_m (i := 329) rfl rfl, jj_m (i := 330) rfl rfl⟩, fun _ h => absurd h List.not_mem_nil⟩
set_option maxRecDepth 20000 in
theorem jj_ms_ok_4 : ∀ e ∈ jj_msL 4, jj_okM e.2 ∧ Cond.methodLink (jj_R 4) e.1 e.2.1.1 ∈ jj_wl ∧ Cond.static e.2.1.1 ∈ jj_wl := List.forall_mem_cons.mpr ⟨⟨okX4_isWorth, jj_m (i := 237) rfl rfl, jj_m (i := 238) rfl rfl⟩, List.forall_mem_cons.mpr ⟨⟨okX4_isCount, jj_m (i := 240) rfl rfl, jj_m (i := 241) rfl rfl⟩, List.forall_mem_cons.mpr ⟨⟨okX4_isLimit, jj_m (i := 257) rfl rfl, jj_m (i := 258) rfl rfl⟩, List.forall_mem_cons.mpr ⟨⟨okX4_inLowestTerms, jj_m (i := 524) rfl rfl, jj_m (i := 525) rfl rfl⟩, List.forall_mem_cons.mpr ⟨⟨okJ9_abs_067f4, jj_m (i := 527) rfl rfl, jj_m (i := 503) rfl rfl⟩, List.forall_mem_cons.mpr ⟨⟨okX4_commonDivisor, jj_m (i := 528) rfl rfl, jj_m (i := 529) rfl rfl⟩, fun _ h => absurd h List.not_mem_nil⟩⟩⟩⟩⟩⟩
set_option maxRecDepth 20000 in
theorem jj_ms_ok_5 : ∀ e ∈ jj_msL 5, jj_okM e.2 ∧ Cond.methodLink (jj_R 5) e.1 e.2.1.1 ∈ jj_wl ∧ Cond.static e.2.1.1 ∈ jj_wl := List.forall_mem_cons.mpr ⟨⟨okX5_in, jj_m (i := 679) rfl rfl, jj_m (i := 680) rfl rfl⟩, List.forall_mem_cons.mpr ⟨⟨okX5_isLimit, jj_m (i := 690) rfl rfl, jj_m (i := 691) rfl rfl⟩, List.forall_mem_cons.mpr ⟨⟨okX5_floor, jj_m (i := 778) rfl rfl, jj_m (i := 779) rfl rfl⟩, List.forall_mem_cons.mpr ⟨⟨okX5_part, jj_m (i := 817) rfl rfl, jj_m (i := 818) rfl rfl⟩, fun _ h => absurd h List.not_mem_nil⟩⟩⟩⟩
theorem jj_ms_ok : ∀ c : Nat, ∀ e ∈ jj_msL c, jj_okM e.2 ∧ Cond.methodLink (jj_R c) e.1 e.2.1.1 ∈ jj_wl ∧ Cond.static e.2.1.1 ∈ jj_wl := fun c => match c with
  | 0 => fun _ h => absurd h List.not_mem_nil
  | 1 => jj_ms_ok_1
  | 2 => jj_ms_ok_2
  | 3 => jj_ms_ok_3
  | 4 => jj_ms_ok_4
  | 5 => jj_ms_ok_5
  | 6 => fun _ h => absurd h List.not_mem_nil
  | 7 => fun _ h => absurd h List.not_mem_nil
  | 8 => fun _ h => absurd h List.not_mem_nil
  | 9 => fun _ h => absurd h List.not_mem_nil
  | _ + 10 => fun _ h => absurd h List.not_mem_nil
set_option maxRecDepth 20000 in
theorem inX0 : ∀ w ∈ wsX00, w ∈ jj_wl := by decide +kernel
set_option maxRecDepth 20000 in
theorem inX1 : ∀ w ∈ wsX10, w ∈ jj_wl := by decide +kernel
set_option maxRecDepth 20000 in
theorem inX2 : ∀ w ∈ wsX20, w ∈ jj_wl := by decide +kernel
set_option maxRecDepth 20000 in
theorem inX3 : ∀ w ∈ wsX30, w ∈ jj_wl := by decide +kernel
set_option maxRecDepth 20000 in
theorem inX4 : ∀ w ∈ wsX40, w ∈ jj_wl := by decide +kernel
set_option maxRecDepth 20000 in
theorem inX5 : ∀ w ∈ wsX50, w ∈ jj_wl := by decide +kernel
def jj_okC (ci : Nat) : Prop := vwCl[ci]? = some (jj_R ci, jj_T ci, jj_nf ci) ∧ (∀ w ∈ u_ws (jj_R ci) (jj_T ci) (jj_nf ci), w ∈ jj_wl) ∧ (∀ k, k < jj_nf ci → parseFieldDescriptor (jj_T ci k).2.2.1 = some (jj_fty ci k)) ∧ (∀ a, a < jj_nf ci → ∀ b, b < jj_nf ci → a ≠ b → (jj_T ci a).2.1 ≠ (jj_T ci b).2.1) ∧ (∀ k, k < jj_nf ci → (jj_fty ci k = .int ∨ jj_fty ci k = .boolean ∨ jj_fty ci k = .long) → (jj_T ci k).2.2.2 = false)
theorem okC0 : jj_okC 0 := ⟨rfl, inX0, tyX0_ok, nmX0, by decide +kernel⟩
theorem okC1 : jj_okC 1 := ⟨rfl, inX1, tyX1_ok, nmX1, by decide +kernel⟩
theorem okC2 : jj_okC 2 := ⟨rfl, inX2, tyX2_ok, nmX2, by decide +kernel⟩
theorem okC3 : jj_okC 3 := ⟨rfl, inX3, tyX3_ok, nmX3, by decide +kernel⟩
theorem okC4 : jj_okC 4 := ⟨rfl, inX4, tyX4_ok, nmX4, by decide +kernel⟩
theorem okC5 : jj_okC 5 := ⟨rfl, inX5, tyX5_ok, nmX5, by decide +kernel⟩
theorem jj_clsL {a ci : Nat} (h : jj_sh[a]? = some (.inl ci)) : a < jj_nc ∧ jj_okC ci := by
  have ha : a < 46 := (List.getElem?_eq_some_iff.mp h).1
  refine ⟨ha, ?_⟩
  have hm : (Sum.inl ci : Nat ⊕ (FieldType × Nat)) ∈ jj_sh := List.mem_of_getElem? h
  simp [jj_sh] at hm
  rcases hm with rfl | rfl | rfl | rfl | rfl | rfl
  all_goals first | exact okC0 | exact okC1 | exact okC2 | exact okC3 | exact okC4 | exact okC5
end
section
/-! A machine of our own over the cells of this system: what an instruction does to locals, operands and cells, as a function; runs of it; and that the machine does the same -/
abbrev jj_Hp : Type := (Nat → Nat → Int32) × (Nat → Nat → Int64) × (Nat × (Nat → Int32))
def jj_fld (c i : Nat) : Option (Nat × Nat) := (jj_fl c).lookup i
def jj_ldc (c i : Nat) : Option Int32 := (jj_ldL c).lookup i
def jj_ldl (c i : Nat) : Option Int64 := (jj_llL c).lookup i
def jj_mv (c i : Nat) : Option jj_M := (jj_mvL c).lookup i
def jj_ms (c i : Nat) : Option jj_M := (jj_msL c).lookup i
/-- an int written into a cell -/
def jj_iu (h : jj_Hp) (a k : Nat) (x : Int32) : jj_Hp := (fun q => if q = a then upd (h.1 a) k x else h.1 q, h.2)
def jj_lu (h : jj_Hp) (a k : Nat) (x : Int64) : jj_Hp := (h.1, (fun q => if q = a then vp_updL (h.2.1 a) k x else h.2.1 q), h.2.2)
/-- the law's own script, as a cell -/
abbrev jj_sc : Nat := 1000
def jj_clr : Value → Value
  | .long _ => .null
  | .double _ => .null
  | v => v
def jj_set : List Value → Nat → Value → List Value
  | [], _, _ => []
  | _ :: l, 0, v => v :: l
  | a :: l, 1, v => jj_clr a :: jj_set l 0 v
  | a :: l, i + 2, v => a :: jj_set l (i + 1) v
def jj_set2 (lc : List Value) (i : Nat) (v : Value) : List Value := (jj_set lc i v).set (i + 1) .null
def jj_ent : List Value → Nat → List Value
  | [], n => List.replicate n .null
  | .long x :: l, n => .long x :: .null :: jj_ent l (n - 2)
  | .int x :: l, n => .int x :: jj_ent l (n - 1)
  | .ref x :: l, n => .ref x :: jj_ent l (n - 1)
  | _ :: l, n => .null :: jj_ent l (n - 1)
def jj_wd : List Value → Nat
  | [] => 0
  | .long _ :: l => jj_wd l + 2
  | .int _ :: l => jj_wd l + 1
  | .ref _ :: l => jj_wd l + 1
  | _ :: _ => 1000
section JJ1
variable {α : Type}
def jj_i (st : List Value) (f : Int32 → List Value → Option α) : Option α := match st with
  | .int x :: r => f x r
  | _ => none
def jj_ii (st : List Value) (f : Int32 → Int32 → List Value → Option α) : Option α := match st with
  | .int y :: .int x :: r => f x y r
  | _ => none
def jj_l (st : List Value) (f : Int64 → List Value → Option α) : Option α := match st with
  | .long x :: r => f x r
  | _ => none
def jj_ll (st : List Value) (f : Int64 → Int64 → List Value → Option α) : Option α := match st with
  | .long y :: .long x :: r => f x y r
  | _ => none
def jj_r (st : List Value) (f : Nat → List Value → Option α) : Option α := match st with
  | .ref a :: r => f a r
  | _ => none
def jj_ri (st : List Value) (f : Nat → Int32 → List Value → Option α) : Option α := match st with
  | .int i :: .ref a :: r => f a i r
  | _ => none
def jj_rl (st : List Value) (f : Nat → Int64 → List Value → Option α) : Option α := match st with
  | .long i :: .ref a :: r => f a i r
  | _ => none
def jj_rii (st : List Value) (f : Nat → Int32 → Int32 → List Value → Option α) : Option α := match st with
  | .int x :: .int i :: .ref a :: r => f a i x r
  | _ => none
def jj_ril (st : List Value) (f : Nat → Int32 → Int64 → List Value → Option α) : Option α := match st with
  | .long x :: .int i :: .ref a :: r => f a i x r
  | _ => none
def jj_du (st : List Value) (f : Value → List Value → Option α) : Option α := match st with
  | .int x :: r => f (.int x) r
  | .ref x :: r => f (.ref x) r
  | _ => none
theorem jj_du_inv {st : List Value} {f : Value → List Value → Option α} {z : α} (h : jj_du st f = some z) : ∃ v r, st = v :: r ∧ v.category = 1 ∧ f v r = some z := by
  unfold jj_du at h; split at h
  · exact ⟨_, _, rfl, rfl, h⟩
  · exact ⟨_, _, rfl, rfl, h⟩
  · cases h
theorem jj_i_inv {st : List Value} {f : Int32 → List Value → Option α} {z : α} (h : jj_i st f = some z) : ∃ x r, st = .int x :: r ∧ f x r = some z := by
  unfold jj_i at h; split at h
  · exact ⟨_, _, rfl, h⟩
  · cases h
theorem jj_ii_inv {st : List Value} {f : Int32 → Int32 → List Value → Option α} {z : α} (h : jj_ii st f = some z) : ∃ x y r, st = .int y :: .int x :: r ∧ f x y r = some z := by
  unfold jj_ii at h; split at h
  · exact ⟨_, _, _, rfl, h⟩
  · cases h
theorem jj_l_inv {st : List Value} {f : Int64 → List Value → Option α} {z : α} (h : jj_l st f = some z) : ∃ x r, st = .long x :: r ∧ f x r = some z := by
  unfold jj_l at h; split at h
  · exact ⟨_, _, rfl, h⟩
  · cases h
theorem jj_ll_inv {st : List Value} {f : Int64 → Int64 → List Value → Option α} {z : α} (h : jj_ll st f = some z) : ∃ x y r, st = .long y :: .long x :: r ∧ f x y r = some z := by
  unfold jj_ll at h; split at h
  · exact ⟨_, _, _, rfl, h⟩
  · cases h
theorem jj_r_inv {st : List Value} {f : Nat → List Value → Option α} {z : α} (h : jj_r st f = some z) : ∃ a r, st = .ref a :: r ∧ f a r = some z := by
  unfold jj_r at h; split at h
  · exact ⟨_, _, rfl, h⟩
  · cases h
theorem jj_ri_inv {st : List Value} {f : Nat → Int32 → List Value → Option α} {z : α} (h : jj_ri st f = some z) : ∃ a i r, st = .int i :: .ref a :: r ∧ f a i r = some z := by
  unfold jj_ri at h; split at h
  · exact ⟨_, _, _, rfl, h⟩
  · cases h
theorem jj_rl_inv {st : List Value} {f : Nat → Int64 → List Value → Option α} {z : α} (h : jj_rl st f = some z) : ∃ a i r, st = .long i :: .ref a :: r ∧ f a i r = some z := by
  unfold jj_rl at h; split at h
  · exact ⟨_, _, _, rfl, h⟩
  · cases h
theorem jj_rii_inv {st : List Value} {f : Nat → Int32 → Int32 → List Value → Option α} {z : α} (h : jj_rii st f = some z) : ∃ a i x r, st = .int x :: .int i :: .ref a :: r ∧ f a i x r = some z := by
  unfold jj_rii at h; split at h
  · exact ⟨_, _, _, _, rfl, h⟩
  · cases h
theorem jj_ril_inv {st : List Value} {f : Nat → Int32 → Int64 → List Value → Option α} {z : α} (h : jj_ril st f = some z) : ∃ a i x r, st = .long x :: .int i :: .ref a :: r ∧ f a i x r = some z := by
  unfold jj_ril at h; split at h
  · exact ⟨_, _, _, _, rfl, h⟩
  · cases h
end JJ1
def jj_gi (lc : List Value) (i : Nat) : Option Int32 := match lc[i]? with
  | some (.int x) => some x
  | _ => none
def jj_gl (lc : List Value) (i : Nat) : Option Int64 := match lc[i]? with
  | some (.long x) => some x
  | _ => none
def jj_gr (lc : List Value) (i : Nat) : Option Nat := match lc[i]? with
  | some (.ref x) => some x
  | _ => none
def jj_c1 (q : ClassFile.Cond) (x : Int32) : Bool := match q with
  | .eq => decide (x = 0)
  | .ne => !decide (x = 0)
  | .lt => decide (x < 0)
  | .ge => decide (0 ≤ x)
  | .gt => decide (0 < x)
  | .le => decide (x ≤ 0)
def jj_c2 (q : ClassFile.Cond) (x y : Int32) : Bool := match q with
  | .eq => decide (x = y)
  | .ne => !decide (x = y)
  | .lt => decide (x < y)
  | .ge => decide (y ≤ x)
  | .gt => decide (y < x)
  | .le => decide (x ≤ y)
def jj_inb (i : Int32) (n : Nat) : Bool := decide (0 ≤ i) && decide (i.toNatClampNeg < n)
def jj_tsw (dflt lo hi : Int) (offs : Array Int) (x : Int32) : Option Int :=
  if x.toInt < lo ∨ hi < x.toInt then some dflt else offs[(x.toInt - lo).toNat]?
def jj_jmp (pc : Nat) (off : Int) : Option Nat := if 0 ≤ (pc : Int) + off then some ((pc : Int) + off).toNat else none
abbrev jj_P : Type := Nat × List Value × List Value × jj_Hp
/-- what is read of an object's field -/
def jj_gf (h : jj_Hp) (a ci k : Nat) : Value := match jj_fty ci k with
  | .int => .int (h.1 a k)
  | .boolean => .int (h.1 a k)
  | .long => .long (h.2.1 a k)
  | _ => .ref (jj_rf a k)
def jj_b01 (x : Int32) : Bool := decide (x = 0) || decide (x = 1)
def jj_st (c : Nat) (ins : Instr) (pc : Nat) (lc st : List Value) (h : jj_Hp) : Option jj_P := match ins with
  | .iconst k => some (pc + 1, lc, .int (Int32.ofInt k) :: st, h)
  | .bipush k => some (pc + 2, lc, .int (Int8.ofInt k).toInt32 :: st, h)
  | .sipush k => some (pc + 3, lc, .int (Int16.ofInt k).toInt32 :: st, h)
  | .lconst k => some (pc + 1, lc, .long (Int64.ofNat (k : Nat)) :: st, h)
  | .ldc i => (jj_ldc c i).map fun v => (pc + 2, lc, .int v :: st, h)
  | .ldc_w i => (jj_ldc c i).map fun v => (pc + 3, lc, .int v :: st, h)
  | .ldc2_w i => (jj_ldl c i).map fun v => (pc + 3, lc, .long v :: st, h)
  | .iload i => (jj_gi lc i).map fun x => (pc + 2, lc, .int x :: st, h)
  | .iload_n i => (jj_gi lc i).map fun x => (pc + 1, lc, .int x :: st, h)
  | .lload i => (jj_gl lc i).map fun x => (pc + 2, lc, .long x :: st, h)
  | .lload_n i => (jj_gl lc i).map fun x => (pc + 1, lc, .long x :: st, h)
  | .aload i => (jj_gr lc i).map fun x => (pc + 2, lc, .ref x :: st, h)
  | .aload_n i => (jj_gr lc i).map fun x => (pc + 1, lc, .ref x :: st, h)
  | .istore i => jj_i st fun x r => if i < lc.length then some (pc + 2, jj_set lc i (.int x), r, h) else none
  | .istore_n i => jj_i st fun x r => if i < lc.length then some (pc + 1, jj_set lc i (.int x), r, h) else none
  | .lstore i => jj_l st fun x r => if i + 1 < lc.length then some (pc + 2, jj_set2 lc i (.long x), r, h) else none
  | .lstore_n i => jj_l st fun x r => if i + 1 < lc.length then some (pc + 1, jj_set2 lc i (.long x), r, h) else none
  | .astore i => jj_r st fun x r => if i < lc.length then some (pc + 2, jj_set lc i (.ref x), r, h) else none
  | .astore_n i => jj_r st fun x r => if i < lc.length then some (pc + 1, jj_set lc i (.ref x), r, h) else none
  | .iinc i k => (jj_gi lc i).map fun x => (pc + 3, jj_set lc i (.int (x + Int32.ofInt k)), st, h)
  | .dup => jj_du st fun v r => some (pc + 1, lc, v :: v :: r, h)
  | .dup2 => jj_ri st fun a i r => some (pc + 1, lc, .int i :: .ref a :: .int i :: .ref a :: r, h)
  | .iadd => jj_ii st fun x y r => some (pc + 1, lc, .int (x + y) :: r, h)
  | .isub => jj_ii st fun x y r => some (pc + 1, lc, .int (x - y) :: r, h)
  | .imul => jj_ii st fun x y r => some (pc + 1, lc, .int (x * y) :: r, h)
  | .iand => jj_ii st fun x y r => some (pc + 1, lc, .int (x &&& y) :: r, h)
  | .ior => jj_ii st fun x y r => some (pc + 1, lc, .int (x ||| y) :: r, h)
  | .ixor => jj_ii st fun x y r => some (pc + 1, lc, .int (x ^^^ y) :: r, h)
  | .idiv => jj_ii st fun x y r => if y = 0 then none else some (pc + 1, lc, .int (x / y) :: r, h)
  | .irem => jj_ii st fun x y r => if y = 0 then none else some (pc + 1, lc, .int (x - x / y * y) :: r, h)
  | .ineg => jj_i st fun x r => some (pc + 1, lc, .int (-x) :: r, h)
  | .ishl => jj_ii st fun x y r => some (pc + 1, lc, .int (x <<< (y &&& 31)) :: r, h)
  | .ishr => jj_ii st fun x y r => some (pc + 1, lc, .int (x >>> (y &&& 31)) :: r, h)
  | .iushr => jj_ii st fun x y r => some (pc + 1, lc, .int (x.toUInt32 >>> (y.toUInt32 &&& Int32.toUInt32 31)).toInt32 :: r, h)
  | .ladd => jj_ll st fun x y r => some (pc + 1, lc, .long (x + y) :: r, h)
  | .lsub => jj_ll st fun x y r => some (pc + 1, lc, .long (x - y) :: r, h)
  | .lmul => jj_ll st fun x y r => some (pc + 1, lc, .long (x * y) :: r, h)
  | .ldiv => jj_ll st fun x y r => if y = 0 then none else some (pc + 1, lc, .long (x / y) :: r, h)
  | .lrem => jj_ll st fun x y r => if y = 0 then none else some (pc + 1, lc, .long (x - x / y * y) :: r, h)
  | .lneg => jj_l st fun x r => some (pc + 1, lc, .long (-x) :: r, h)
  | .lcmp => jj_ll st fun x y r => some (pc + 1, lc, .int (lg_cmp x y) :: r, h)
  | .i2l => jj_i st fun x r => some (pc + 1, lc, .long x.toInt64 :: r, h)
  | .l2i => jj_l st fun x r => some (pc + 1, lc, .int x.toInt32 :: r, h)
  | .goto off => (jj_jmp pc off).map fun t => (t, lc, st, h)
  | .ifCond q off => jj_i st fun x r => (jj_jmp pc off).map fun t => (if jj_c1 q x then t else pc + 3, lc, r, h)
  | .if_icmp q off => jj_ii st fun x y r => (jj_jmp pc off).map fun t => (if jj_c2 q x y then t else pc + 3, lc, r, h)
  | .tableswitch dflt lo hi offs => jj_i st fun x r => (jj_tsw dflt lo hi offs x).bind fun off => (jj_jmp pc off).map fun t => (t, lc, r, h)
  | .getfield i => jj_r st fun a r => (jj_fld c i).bind fun q => if jj_sh[a]? = some (.inl q.1) ∧ q.2 < jj_nf q.1 then some (pc + 3, lc, jj_gf h a q.1 q.2 :: r, h) else none
  | .putfield i => (jj_fld c i).bind fun q => match jj_fty q.1 q.2 with
    | .int => jj_ri st fun a x r => if jj_sh[a]? = some (.inl q.1) ∧ q.2 < jj_nf q.1 then some (pc + 3, lc, r, jj_iu h a q.2 x) else none
    | .boolean => jj_ri st fun a x r => if jj_sh[a]? = some (.inl q.1) ∧ q.2 < jj_nf q.1 ∧ jj_b01 x = true then some (pc + 3, lc, r, jj_iu h a q.2 x) else none
    | .long => jj_rl st fun a x r => if jj_sh[a]? = some (.inl q.1) ∧ q.2 < jj_nf q.1 then some (pc + 3, lc, r, jj_lu h a q.2 x) else none
    | _ => none
  | .iaload => jj_ri st fun a i r => if a = jj_sc then (if jj_inb i h.2.2.1 then some (pc + 1, lc, .int (h.2.2.2 i.toNatClampNeg) :: r, h) else none)
      else match jj_sh[a]? with
      | some (.inr (.int, n)) => if jj_inb i n then some (pc + 1, lc, .int (h.1 a i.toNatClampNeg) :: r, h) else none
      | _ => none
  | .baload => jj_ri st fun a i r => match jj_sh[a]? with
      | some (.inr (.boolean, n)) => if jj_inb i n then some (pc + 1, lc, .int (h.1 a i.toNatClampNeg) :: r, h) else none
      | _ => none
  | .laload => jj_ri st fun a i r => match jj_sh[a]? with
      | some (.inr (.long, n)) => if jj_inb i n then some (pc + 1, lc, .long (h.2.1 a i.toNatClampNeg) :: r, h) else none
      | _ => none
  | .iastore => jj_rii st fun a i x r => match jj_sh[a]? with
      | some (.inr (.int, n)) => if jj_inb i n then some (pc + 1, lc, r, jj_iu h a i.toNatClampNeg x) else none
      | _ => none
  | .bastore => jj_rii st fun a i x r => match jj_sh[a]? with
      | some (.inr (.boolean, n)) => if jj_inb i n ∧ jj_b01 x = true then some (pc + 1, lc, r, jj_iu h a i.toNatClampNeg x) else none
      | _ => none
  | .lastore => jj_ril st fun a i x r => match jj_sh[a]? with
      | some (.inr (.long, n)) => if jj_inb i n then some (pc + 1, lc, r, jj_lu h a i.toNatClampNeg x) else none
      | _ => none
  | .arraylength => jj_r st fun a r => if a = jj_sc then some (pc + 1, lc, .int (Int32.ofNat h.2.2.1) :: r, h) else match jj_sh[a]? with
      | some (.inr (_, n)) => some (pc + 1, lc, .int (Int32.ofNat n) :: r, h)
      | _ => none
  | _ => none
/-- how long an instruction is -/
def jj_len (ins : Instr) (len : Nat) : Nat := match ins with
  | .bipush _ => 2
  | .sipush _ => 3
  | .ldc _ => 2
  | .ldc_w _ => 3
  | .ldc2_w _ => 3
  | .iload _ => 2
  | .lload _ => 2
  | .aload _ => 2
  | .istore _ => 2
  | .lstore _ => 2
  | .astore _ => 2
  | .iinc _ _ => 3
  | .goto _ => 3
  | .ifCond _ _ => 3
  | .if_icmp _ _ => 3
  | .tableswitch _ _ _ _ => len
  | .getfield _ => 3
  | .putfield _ => 3
  | .invokevirtual _ => 3
  | .invokestatic _ => 3
  | _ => 1
def jj_rok (ret : Option FieldType) (x : Int32) : Bool := match ret with
  | some .int => true
  | some .boolean => jj_b01 x
  | _ => false
def jj_aok (ret : Option FieldType) : Bool := match ret with
  | some (.object _) => true
  | some (.array _) => true
  | _ => false
/-- what a method gives back -/
def jj_fin (ret : Option FieldType) (ins : Instr) (st : List Value) : Option (Option Value) := match ins with
  | .ireturn => match st with
    | [.int x] => if jj_rok ret x then some (some (.int x)) else none
    | _ => none
  | .lreturn => match st with
    | [.long x] => if ret = some .long then some (some (.long x)) else none
    | _ => none
  | .areturn => match st with
    | [.ref x] => if jj_aok ret then some (some (.ref x)) else none
    | _ => none
  | .return_ => match st with
    | [] => if ret = none then some none else none
    | _ => none
  | _ => none
/-- the call that an instruction makes: the method, its arguments, what stays of the operands -/
def jj_cal (c : Nat) (ins : Instr) (st : List Value) : Option (jj_M × List Value × List Value) := match ins with
  | .invokevirtual i => (jj_mv c i).bind fun M => match st.drop M.2.2.2.2 with
    | .ref a :: r => if jj_sh[a]? = some (.inl M.2.2.2.1) ∧ (st.take M.2.2.2.2).length = M.2.2.2.2 then some (M, .ref a :: (st.take M.2.2.2.2).reverse, r) else none
    | _ => none
  | .invokestatic i => (jj_ms c i).bind fun M => if (st.take M.2.2.2.2).length = M.2.2.2.2 then some (M, (st.take M.2.2.2.2).reverse, st.drop M.2.2.2.2) else none
  | _ => none
def jj_cok (q : jj_M × List Value × List Value) : Bool := decide (jj_wd q.2.1 ≤ q.1.2.1) && decide ((q.2.2.map fun v => v.category).sum ≤ 8)
def jj_exec : Nat → Nat → jj_M → Nat → List Value → List Value → jj_Hp → Option (Option Value × jj_Hp)
  | 0, _, _, _, _, _, _ => none
  | n + 1, d, M, pc, lc, st, h => match decode M.1.2 pc with
    | .ok (ins, len) => if jj_len ins len = len then
        match jj_fin M.2.2.1 ins st with
        | some r => some (r, h)
        | none => match jj_cal M.2.2.2.1 ins st with
          | some q => if jj_cok q then
              match d with
              | 0 => none
              | d' + 1 => match jj_exec n d' q.1 0 (jj_ent q.2.1 q.1.2.1) [] h with
                | some (r, h1) => jj_exec n (d' + 1) M (pc + 3) lc (r.toList ++ q.2.2) h1
                | none => none
              else none
          | none => match jj_st M.2.2.2.1 ins pc lc st h with
            | some p => jj_exec n d M p.1 p.2.1 p.2.2.1 p.2.2.2
            | none => none
        else none
    | _ => none
end
section
/-! the machine does what our function says: one instruction -/
def jj_tr (ad : Nat → Nat) : Value → Value
  | .ref k => .ref (ad k)
  | v => v
def jj_ce (ad : Nat → Nat) (cA : Nat → ClassId) (h : jj_Hp) (a : Nat) : va_E := match jj_sh[a]? with
  | some (.inl ci) => .inr (ci, (List.range (jj_nf ci)).map fun k => jj_tr ad (jj_gf h a ci k))
  | some (.inr (.long, n)) => .inl (cA a, n, .inr (.inl (h.2.1 a)))
  | some (.inr (_, n)) => .inl (cA a, n, .inl (h.1 a))
  | none => .inr (0, [])
def jj_w (ad : Nat → Nat) (cA : Nat → ClassId) (h : jj_Hp) : va_W := (List.range jj_nc).map fun a => (ad a, jj_ce ad cA h a)
theorem jj_w_get {ad : Nat → Nat} {cA : Nat → ClassId} {h : jj_Hp} {a : Nat} (ha : a < jj_nc) : (jj_w ad cA h)[a]? = some (ad a, jj_ce ad cA h a) := by
  unfold jj_w
  rw [List.getElem?_map, List.getElem?_range ha]
  rfl
theorem jj_w_len {ad : Nat → Nat} {cA : Nat → ClassId} {h : jj_Hp} : (jj_w ad cA h).length = jj_nc := by
  unfold jj_w
  rw [List.length_map, List.length_range]
theorem jj_sh_lt {a : Nat} {x : Nat ⊕ (FieldType × Nat)} (h : jj_sh[a]? = some x) : a < jj_nc := (List.getElem?_eq_some_iff.mp h).1
theorem jj_ce_eq {ad : Nat → Nat} {cA : Nat → ClassId} {h h' : jj_Hp} {a : Nat} (h1 : h'.1 a = h.1 a) (h2 : h'.2.1 a = h.2.1 a) : jj_ce ad cA h' a = jj_ce ad cA h a := by
  unfold jj_ce jj_gf
  rw [h1, h2]
theorem jj_w_set {ad : Nat → Nat} {cA : Nat → ClassId} {h h' : jj_Hp} {a : Nat} {e : va_E} (he : e = jj_ce ad cA h' a) (ho : ∀ q, q ≠ a → h'.1 q = h.1 q ∧ h'.2.1 q = h.2.1 q) : (jj_w ad cA h).set a (ad a, e) = jj_w ad cA h' := by
  apply List.ext_getElem?
  intro i
  rw [List.getElem?_set]
  by_cases hi : i < jj_nc
  · by_cases hia : a = i
    · subst hia
      rw [if_pos rfl, if_pos (by rw [jj_w_len]; exact hi), jj_w_get hi, he]
    · rw [if_neg hia, jj_w_get hi, jj_w_get hi, jj_ce_eq (ho i (fun q => hia q.symm)).1 (ho i (fun q => hia q.symm)).2]
  · have hn : (jj_w ad cA h)[i]? = none := List.getElem?_eq_none (by rw [jj_w_len]; omega)
    have hn' : (jj_w ad cA h')[i]? = none := List.getElem?_eq_none (by rw [jj_w_len]; omega)
    rw [hn, hn']
    by_cases hia : a = i
    · rw [if_pos hia, if_neg (by rw [jj_w_len]; omega)]
    · rw [if_neg hia]
theorem jj_iu_at {h : jj_Hp} {a k : Nat} {x : Int32} : (jj_iu h a k x).1 a = upd (h.1 a) k x := by simp [jj_iu]
theorem jj_iu_ne {h : jj_Hp} {a k q : Nat} {x : Int32} (hq : q ≠ a) : (jj_iu h a k x).1 q = h.1 q := by simp [jj_iu, hq]
theorem jj_lu_at {h : jj_Hp} {a k : Nat} {x : Int64} : (jj_lu h a k x).2.1 a = vp_updL (h.2.1 a) k x := by simp [jj_lu]
theorem jj_lu_ne {h : jj_Hp} {a k q : Nat} {x : Int64} (hq : q ≠ a) : (jj_lu h a k x).2.1 q = h.2.1 q := by simp [jj_lu, hq]
theorem jj_iu_o {h : jj_Hp} {a k : Nat} {x : Int32} : ∀ q, q ≠ a → (jj_iu h a k x).1 q = h.1 q ∧ (jj_iu h a k x).2.1 q = h.2.1 q := fun q hq => ⟨jj_iu_ne hq, rfl⟩
theorem jj_lu_o {h : jj_Hp} {a k : Nat} {x : Int64} : ∀ q, q ≠ a → (jj_lu h a k x).1 q = h.1 q ∧ (jj_lu h a k x).2.1 q = h.2.1 q := fun q hq => ⟨rfl, jj_lu_ne hq⟩
theorem jj_ce_ob {ad : Nat → Nat} {cA : Nat → ClassId} {h : jj_Hp} {a ci : Nat} (hs : jj_sh[a]? = some (.inl ci)) : jj_ce ad cA h a = .inr (ci, (List.range (jj_nf ci)).map fun k => jj_tr ad (jj_gf h a ci k)) := by unfold jj_ce; rw [hs]
theorem jj_ce_i {ad : Nat → Nat} {cA : Nat → ClassId} {h : jj_Hp} {a n : Nat} (hs : jj_sh[a]? = some (.inr (.int, n))) : jj_ce ad cA h a = .inl (cA a, n, .inl (h.1 a)) := by unfold jj_ce; rw [hs]
theorem jj_ce_z {ad : Nat → Nat} {cA : Nat → ClassId} {h : jj_Hp} {a n : Nat} (hs : jj_sh[a]? = some (.inr (.boolean, n))) : jj_ce ad cA h a = .inl (cA a, n, .inl (h.1 a)) := by unfold jj_ce; rw [hs]
theorem jj_ce_l {ad : Nat → Nat} {cA : Nat → ClassId} {h : jj_Hp} {a n : Nat} (hs : jj_sh[a]? = some (.inr (.long, n))) : jj_ce ad cA h a = .inl (cA a, n, .inr (.inl (h.2.1 a))) := by unfold jj_ce; rw [hs]
theorem jj_fs_get {ad : Nat → Nat} {h : jj_Hp} {a ci k : Nat} (hk : k < jj_nf ci) : ((List.range (jj_nf ci)).map fun k => jj_tr ad (jj_gf h a ci k))[k]? = some (jj_tr ad (jj_gf h a ci k)) := by
  rw [List.getElem?_map, List.getElem?_range hk]; rfl
theorem jj_fs_set {ad : Nat → Nat} {h h' : jj_Hp} {a ci k : Nat} {v : Value} (hk : k < jj_nf ci) (hv : v = jj_tr ad (jj_gf h' a ci k)) (ho : ∀ j, j ≠ k → jj_gf h' a ci j = jj_gf h a ci j) : ((List.range (jj_nf ci)).map fun k => jj_tr ad (jj_gf h a ci k)).set k v = (List.range (jj_nf ci)).map fun k => jj_tr ad (jj_gf h' a ci k) := by
  apply List.ext_getElem?
  intro i
  rw [List.getElem?_set]
  by_cases hi : i < jj_nf ci
  · by_cases hia : k = i
    · subst hia
      rw [if_pos rfl, if_pos (by simpa using hi), jj_fs_get hi, hv]
    · rw [if_neg hia, jj_fs_get hi, jj_fs_get hi, ho i (fun q => hia q.symm)]
  · rw [List.getElem?_eq_none (by simp; omega), List.getElem?_eq_none (by simp; omega)]
    by_cases hia : k = i
    · omega
    · rw [if_neg hia]
theorem jj_gf_iu {h : jj_Hp} {a ci k j : Nat} {x : Int32} (hj : j ≠ k) : jj_gf (jj_iu h a k x) a ci j = jj_gf h a ci j := by
  unfold jj_gf
  rw [jj_iu_at, show upd (h.1 a) k x j = h.1 a j from if_neg hj]
  rfl
theorem jj_gf_lu {h : jj_Hp} {a ci k j : Nat} {x : Int64} (hj : j ≠ k) : jj_gf (jj_lu h a k x) a ci j = jj_gf h a ci j := by
  unfold jj_gf
  rw [jj_lu_at, show vp_updL (h.2.1 a) k x j = h.2.1 a j from if_neg hj]
  rfl
theorem jj_gf_int {h : jj_Hp} {a ci k : Nat} (hf : jj_fty ci k = .int) : jj_gf h a ci k = .int (h.1 a k) := by unfold jj_gf; rw [hf]
theorem jj_gf_bool {h : jj_Hp} {a ci k : Nat} (hf : jj_fty ci k = .boolean) : jj_gf h a ci k = .int (h.1 a k) := by unfold jj_gf; rw [hf]
theorem jj_gf_long {h : jj_Hp} {a ci k : Nat} (hf : jj_fty ci k = .long) : jj_gf h a ci k = .long (h.2.1 a k) := by unfold jj_gf; rw [hf]
theorem jj_upd_at {f : Nat → Int32} {k : Nat} {x : Int32} : upd f k x k = x := if_pos rfl
theorem jj_updL_at {f : Nat → Int64} {k : Nat} {x : Int64} : vp_updL f k x k = x := if_pos rfl
theorem jj_inb_in {i : Int32} {n : Nat} (h : jj_inb i n = true) : vp_in i n := by
  unfold jj_inb at h
  simp only [Bool.and_eq_true, decide_eq_true_eq] at h
  intro q
  rcases q with q | q
  · have h1 := Int32.le_iff_toInt_le.mp h.1
    have h2 := Int32.lt_iff_toInt_lt.mp q
    omega
  · omega
/-- the locals -/
def jj_L (ad : Nat → Nat) (ls : Array Slot) (nL : Nat) (lc : List Value) : Prop := lv_has ls nL [] ∧ lc.length = nL ∧ ∀ (i : Nat) (v : Value), lc[i]? = some v → v ≠ .null → ls[i]? = some (.val (jj_tr ad v))
def jj_al (ad : Nat → Nat) (lc : List Value) : List (Nat × Value) := (List.range lc.length).filterMap fun (i : Nat) => match (lc[i]? : Option Value) with
  | some Value.null => none
  | some v => some (i, jj_tr ad v)
  | none => none
theorem jj_al_in {ad : Nat → Nat} {lc : List Value} {i : Nat} {v : Value} (h : lc[i]? = some v) (hv : v ≠ .null) : (i, jj_tr ad v) ∈ jj_al ad lc := by
  refine List.mem_filterMap.mpr ⟨i, List.mem_range.mpr (List.getElem?_eq_some_iff.mp h).1, ?_⟩
  rw [h]
  cases v <;> first | rfl | exact absurd rfl hv
theorem jj_al_of {ad : Nat → Nat} {lc : List Value} {q : Nat × Value} (h : q ∈ jj_al ad lc) : ∃ v, lc[q.1]? = some v ∧ v ≠ .null ∧ q.2 = jj_tr ad v := by
  obtain ⟨i, hi, he⟩ := List.mem_filterMap.mp h
  have hi' := List.mem_range.mp hi
  rw [List.getElem?_eq_getElem hi'] at he
  split at he
  · cases he
  · next v hn hv =>
    cases he
    refine ⟨v, ?_, ?_, rfl⟩
    · exact (List.getElem?_eq_getElem hi').trans hv
    · intro q; exact hn (by rw [← q])
  · cases he
theorem jj_L.has {ad : Nat → Nat} {ls : Array Slot} {nL : Nat} {lc : List Value} (h : jj_L ad ls nL lc) : lv_has ls nL (jj_al ad lc) := by
  refine ⟨h.1.1, h.1.2.1, fun q hq => ?_⟩
  obtain ⟨v, h1, h2, h3⟩ := jj_al_of hq
  rw [h3]
  exact h.2.2 q.1 v h1 h2
theorem jj_tr_cat (ad : Nat → Nat) (v : Value) : (jj_tr ad v).category = v.category := by cases v <;> rfl
theorem jj_set_len : ∀ (lc : List Value) (i : Nat) (v : Value), (jj_set lc i v).length = lc.length
  | [], i, v => by cases i <;> rfl
  | a :: l, 0, v => rfl
  | a :: l, 1, v => by simp [jj_set, jj_set_len l 0 v]
  | a :: l, i + 2, v => by simp [jj_set, jj_set_len l (i + 1) v]
theorem jj_set_get : ∀ (lc : List Value) (i : Nat) (v : Value) (k : Nat) (w : Value), (jj_set lc i v)[k]? = some w → (k = i ∧ w = v) ∨ (k ≠ i ∧ k + 1 = i ∧ ∃ u, lc[k]? = some u ∧ w = jj_clr u) ∨ (k ≠ i ∧ k + 1 ≠ i ∧ lc[k]? = some w)
  | [], i, v, k, w, h => by
    have e : jj_set [] i v = [] := by cases i <;> rfl
    rw [e] at h; simp at h
  | a :: l, 0, v, 0, w, h => by
    have h : some v = some w := h
    exact Or.inl ⟨rfl, (Option.some.inj h).symm⟩
  | a :: l, 0, v, k + 1, w, h => Or.inr (Or.inr ⟨by omega, by omega, h⟩)
  | a :: l, 1, v, 0, w, h => by
    have h : some (jj_clr a) = some w := h
    exact Or.inr (Or.inl ⟨by omega, rfl, a, rfl, (Option.some.inj h).symm⟩)
  | a :: l, 1, v, k + 1, w, h => by
    have h : (jj_set l 0 v)[k]? = some w := h
    rcases jj_set_get l 0 v k w h with ⟨h1, h2⟩ | ⟨h0, h1, u, h2, h3⟩ | ⟨h0, h1, h2⟩
    · exact Or.inl ⟨by omega, h2⟩
    · omega
    · exact Or.inr (Or.inr ⟨by omega, by omega, h2⟩)
  | a :: l, i + 2, v, 0, w, h => Or.inr (Or.inr ⟨by omega, by omega, h⟩)
  | a :: l, i + 2, v, k + 1, w, h => by
    have h : (jj_set l (i + 1) v)[k]? = some w := h
    rcases jj_set_get l (i + 1) v k w h with ⟨h1, h2⟩ | ⟨h0, h1, u, h2, h3⟩ | ⟨h0, h1, h2⟩
    · exact Or.inl ⟨by omega, h2⟩
    · exact Or.inr (Or.inl ⟨by omega, by omega, u, h2, h3⟩)
    · exact Or.inr (Or.inr ⟨by omega, by omega, h2⟩)
theorem jj_clr_ne {u : Value} (h : jj_clr u ≠ .null) : jj_clr u = u ∧ u.category = 1 := by
  cases u <;> first | exact ⟨rfl, rfl⟩ | exact absurd rfl h
theorem jj_L.set1 {ad : Nat → Nat} {ls ls' : Array Slot} {nL i : Nat} {lc : List Value} {v : Value} (h : jj_L ad ls nL lc) (h' : lv_has ls' nL ((i, jj_tr ad v) :: (jj_al ad lc).filter (fun q => !(q.1 == i) && !(q.1 + 1 == i && q.2.category == 2)))) : jj_L ad ls' nL (jj_set lc i v) := by
  refine ⟨⟨h'.1, h'.2.1, fun q hq => by cases hq⟩, by rw [jj_set_len]; exact h.2.1, fun k w hk hw => ?_⟩
  rcases jj_set_get lc i v k w hk with ⟨h1, h2⟩ | ⟨h0, h1, u, h2, h3⟩ | ⟨h0, h1, h2⟩
  · rw [h1, h2]
    exact h'.2.2 (i, jj_tr ad v) List.mem_cons_self
  · rw [h3] at hw
    obtain ⟨e1, e2⟩ := jj_clr_ne hw
    rw [h3, e1]
    rw [e1] at hw
    refine h'.2.2 (k, jj_tr ad u) (List.mem_cons_of_mem _ (List.mem_filter.mpr ⟨jj_al_in h2 hw, ?_⟩))
    show (!(k == i) && !(k + 1 == i && (jj_tr ad u).category == 2)) = true
    rw [jj_tr_cat, e2]
    simp [h0]
  · refine h'.2.2 (k, jj_tr ad w) (List.mem_cons_of_mem _ (List.mem_filter.mpr ⟨jj_al_in h2 hw, ?_⟩))
    show (!(k == i) && !(k + 1 == i && (jj_tr ad w).category == 2)) = true
    simp [h0, h1]
theorem jj_L.set2 {ad : Nat → Nat} {ls ls' : Array Slot} {nL i : Nat} {lc : List Value} {v : Value} (h : jj_L ad ls nL lc) (h' : lv_has ls' nL ((i, jj_tr ad v) :: (jj_al ad lc).filter (fun q => !(q.1 == i) && (!(q.1 == i + 1) && !(q.1 + 1 == i && q.2.category == 2))))) : jj_L ad ls' nL (jj_set2 lc i v) := by
  refine ⟨⟨h'.1, h'.2.1, fun q hq => by cases hq⟩, by unfold jj_set2; rw [List.length_set, jj_set_len]; exact h.2.1, fun k w hk hw => ?_⟩
  unfold jj_set2 at hk
  rw [List.getElem?_set] at hk
  by_cases hki : i + 1 = k
  · rw [if_pos hki] at hk
    split at hk
    · cases hk; exact absurd rfl hw
    · cases hk
  rw [if_neg hki] at hk
  rcases jj_set_get lc i v k w hk with ⟨h1, h2⟩ | ⟨h0, h1, u, h2, h3⟩ | ⟨h0, h1, h2⟩
  · rw [h1, h2]
    exact h'.2.2 (i, jj_tr ad v) List.mem_cons_self
  · rw [h3] at hw
    obtain ⟨e1, e2⟩ := jj_clr_ne hw
    rw [h3, e1]
    rw [e1] at hw
    refine h'.2.2 (k, jj_tr ad u) (List.mem_cons_of_mem _ (List.mem_filter.mpr ⟨jj_al_in h2 hw, ?_⟩))
    show (!(k == i) && (!(k == i + 1) && !(k + 1 == i && (jj_tr ad u).category == 2))) = true
    rw [jj_tr_cat, e2]
    have hk2 : k ≠ i + 1 := fun q => hki q.symm
    simp [h0, hk2]
  · refine h'.2.2 (k, jj_tr ad w) (List.mem_cons_of_mem _ (List.mem_filter.mpr ⟨jj_al_in h2 hw, ?_⟩))
    show (!(k == i) && (!(k == i + 1) && !(k + 1 == i && (jj_tr ad w).category == 2))) = true
    have hk2 : k ≠ i + 1 := fun q => hki q.symm
    simp [h0, h1, hk2]
theorem jj_gi_at {ad : Nat → Nat} {ls : Array Slot} {nL i : Nat} {lc : List Value} {x : Int32} (h : jj_L ad ls nL lc) (hg : jj_gi lc i = some x) : lc[i]? = some (.int x) ∧ ls[i]? = some (.val (.int x)) := by
  unfold jj_gi at hg
  split at hg
  · next y hy =>
    cases hg
    exact ⟨hy, h.2.2 i (.int x) hy (by simp)⟩
  · cases hg
theorem jj_gl_at {ad : Nat → Nat} {ls : Array Slot} {nL i : Nat} {lc : List Value} {x : Int64} (h : jj_L ad ls nL lc) (hg : jj_gl lc i = some x) : lc[i]? = some (.long x) ∧ ls[i]? = some (.val (.long x)) := by
  unfold jj_gl at hg
  split at hg
  · next y hy =>
    cases hg
    exact ⟨hy, h.2.2 i (.long x) hy (by simp)⟩
  · cases hg
theorem jj_gr_at {ad : Nat → Nat} {ls : Array Slot} {nL i : Nat} {lc : List Value} {x : Nat} (h : jj_L ad ls nL lc) (hg : jj_gr lc i = some x) : lc[i]? = some (.ref x) ∧ ls[i]? = some (.val (.ref (ad x))) := by
  unfold jj_gr at hg
  split at hg
  · next y hy =>
    cases hg
    exact ⟨hy, h.2.2 i (.ref x) hy (by simp)⟩
  · cases hg
theorem jj_jmp_at {pc t : Nat} {off : Int} (h : jj_jmp pc off = some t) : (pc : Int) + off = (t : Int) := by
  unfold jj_jmp at h
  split at h
  · cases h; omega
  · cases h
/-- which cells a frame may write -/
def jj_A (ad : Nat → Nat) (sz : Nat) : Nat → Prop := fun q => (∃ k, k < jj_nc ∧ q = ad k) ∨ sz ≤ q
def jj_Ad (ad : Nat → Nat) (b : Nat) : Prop := (∀ i j, i < jj_nc → j < jj_nc → ad i = ad j → i = j) ∧ (∀ i, i < jj_nc → ad i ≠ b) ∧ ad jj_sc = b
/-- what holds of a frame of method M: the machine, the code, the words, the classes of cells, the script -/
def jj_Cx (D : va_G) (cA : Nat → ClassId) (b : Nat) (sc : Nat × (Nat → Int32)) (p : Program) (R : Room) (s : State) (m : MethodId) (args : Array Value) (meth : Method) (c : Code) (M : jj_M) (d : Nat) : Prop :=
  p.tables.exec = Jvm.exec ∧ c.code = M.1.2 ∧ meth.sig.returnType = M.2.2.1 ∧ meth.locks = false ∧ c.maxLocals = M.2.1 ∧ s.vm.findClass (jj_R M.2.2.2.1) = some m.cls ∧ (∀ w ∈ jj_wl, w.before args s = true) ∧ va_K D vwCl [] s ∧ (∀ a t n, jj_sh[a]? = some (.inr (t, n)) → va_K D vwCl [(cA a, t)] s) ∧ va_X b sc.1 sc.2 s s.heap ∧ b < s.heap.size ∧ d ≤ R.frames ∧ 60 * d ≤ R.locals
theorem jj_Dd {ad : Nat → Nat} {b sz : Nat} (hA : jj_Ad ad b) (cA : Nat → ClassId) (h : jj_Hp) : va_D (jj_A ad sz) (jj_w ad cA h) := by
  have key : ∀ (i : Nat) (p : Nat × va_E), (jj_w ad cA h)[i]? = some p → i < jj_nc ∧ p.1 = ad i := by
    intro i p hp
    have hi : i < jj_nc := by
      have := (List.getElem?_eq_some_iff.mp hp).1
      rwa [jj_w_len] at this
    rw [jj_w_get hi] at hp
    cases hp
    exact ⟨hi, rfl⟩
  refine ⟨fun i j p q hp hq he => ?_, fun k q hk => ?_⟩
  · obtain ⟨h1, h2⟩ := key i p hp
    obtain ⟨h3, h4⟩ := key j q hq
    exact hA.1 i j h1 h3 (by rw [← h2, ← h4]; exact he)
  · obtain ⟨h1, h2⟩ := key k q hk
    exact Or.inl ⟨k, h1, h2⟩
theorem jj_nb {ad : Nat → Nat} {b sz : Nat} (hA : jj_Ad ad b) (hb : b < sz) : ¬ jj_A ad sz b := by
  rintro (⟨k, hk, he⟩ | h)
  · exact hA.2.1 k hk he.symm
  · omega
theorem jj_look {α : Type} {l : List (Nat × α)} {i : Nat} {x : α} (h : l.lookup i = some x) : (i, x) ∈ l := by
  induction l with
  | nil => cases h
  | cons q t ih =>
    obtain ⟨k, v⟩ := q
    rw [List.lookup_cons] at h
    split at h
    · next e =>
      cases h
      have : i = k := by simpa using e
      subst this
      exact List.mem_cons_self
    · exact List.mem_cons_of_mem _ (ih h)
theorem jj_b01_or {x : Int32} (h : jj_b01 x = true) : x = 0 ∨ x = 1 := by
  unfold jj_b01 at h
  simpa using h
theorem jj_bmap {α β γ : Type} {o : Option α} {f : α → Option β} {z : β} (h : o.bind f = some z) : ∃ q, o = some q ∧ f q = some z := by
  cases o with
  | none => cases h
  | some q => exact ⟨q, rfl, h⟩
theorem jj_omap {α β : Type} {o : Option α} {f : α → β} {z : β} (h : o.map f = some z) : ∃ q, o = some q ∧ f q = z := by
  cases o with
  | none => cases h
  | some q => exact ⟨q, rfl, Option.some.inj h⟩
def jj_StS (M : jj_M) (pc : Nat) (lc st : List Value) (h : jj_Hp) (P : jj_P) : Prop :=
  ∀ {l : Launch} {D : va_G} {ad : Nat → Nat} {cA : Nat → ClassId} {b : Nat} {sc : Nat × (Nat → Int32)} {p : Program} {e : Env} {R : Room} {s : State} {m : MethodId} {args : Array Value} {below : List Frame} {meth : Method} {c : Code} {d : Nat} {H : Heap} {locs : List Loc} {cells slots : Nat} {Q : State → Prop} {ls : Array Slot},
    jj_Ad ad b → jj_Cx D cA b sc p R s m args meth c M d → h.2.2 = sc → va_P D vwCl (jj_w ad cA h) H → va_S (jj_A ad s.heap.size) s.heap H locs → jj_L ad ls M.2.1 lc →
    (∀ (H1 : Heap) (locs1 : List Loc) (ls1 : Array Slot), va_P D vwCl (jj_w ad cA P.2.2.2) H1 → va_S (jj_A ad s.heap.size) s.heap H1 locs1 → jj_L ad ls1 M.2.1 P.2.1 → W p l e R s m args below meth c H1 locs1 cells slots Q (F0 m P.1 ls1 (P.2.2.1.map (jj_tr ad)))) →
    W p l e R s m args below meth c H locs cells slots Q (F0 m pc ls (st.map (jj_tr ad)))
set_option maxHeartbeats 4000000 in
set_option maxRecDepth 100000 in
theorem jj_step {M : jj_M} {ins : Instr} {len pc : Nat} {lc st : List Value} {h : jj_Hp} {P : jj_P} (hd : decode M.1.2 pc = .ok (ins, len)) (hlen : jj_len ins len = len) (hs : jj_st M.2.2.2.1 ins pc lc st h = some P) : P.2.2.2.2.2 = h.2.2 ∧ jj_StS M pc lc st h P := by
  cases ins with
  | iconst q =>
    obtain rfl : 1 = len := hlen
    cases hs
    refine ⟨rfl, ?_⟩
    intro l D ad cA b sc p e R s m args below meth c d H locs cells slots Q ls hAd Cx hsc hP hS hl k
    obtain ⟨hx, hb, hr, hlk, hml, hown, hts, hK, hKa, hX, hbl, hfr, hlo⟩ := Cx
    exact lv_iconst hx hb hd rfl (k _ _ _ hP hS hl)
  | bipush q =>
    obtain rfl : 2 = len := hlen
    cases hs
    refine ⟨rfl, ?_⟩
    intro l D ad cA b sc p e R s m args below meth c d H locs cells slots Q ls hAd Cx hsc hP hS hl k
    obtain ⟨hx, hb, hr, hlk, hml, hown, hts, hK, hKa, hX, hbl, hfr, hlo⟩ := Cx
    exact lv_bipush hx hb hd rfl (k _ _ _ hP hS hl)
  | sipush q =>
    obtain rfl : 3 = len := hlen
    cases hs
    refine ⟨rfl, ?_⟩
    intro l D ad cA b sc p e R s m args below meth c d H locs cells slots Q ls hAd Cx hsc hP hS hl k
    obtain ⟨hx, hb, hr, hlk, hml, hown, hts, hK, hKa, hX, hbl, hfr, hlo⟩ := Cx
    exact lv_sipush hx hb hd rfl (k _ _ _ hP hS hl)
  | lconst q =>
    obtain rfl : 1 = len := hlen
    cases hs
    refine ⟨rfl, ?_⟩
    intro l D ad cA b sc p e R s m args below meth c d H locs cells slots Q ls hAd Cx hsc hP hS hl k
    obtain ⟨hx, hb, hr, hlk, hml, hown, hts, hK, hKa, hX, hbl, hfr, hlo⟩ := Cx
    exact lv_lconst hx hb hd rfl (k _ _ _ hP hS hl)
  | ldc q =>
    obtain rfl : 2 = len := hlen
    obtain ⟨x, hg, rfl⟩ := jj_omap hs
    refine ⟨rfl, ?_⟩
    intro l D ad cA b sc p e R s m args below meth c d H locs cells slots Q ls hAd Cx hsc hP hS hl k
    obtain ⟨hx, hb, hr, hlk, hml, hown, hts, hK, hKa, hX, hbl, hfr, hlo⟩ := Cx
    exact lv_ldc hx hb hown (hts _ (jj_ld_ok _ (q, x) (jj_look hg))) hd (k _ _ _ hP hS hl)
  | ldc_w q =>
    obtain rfl : 3 = len := hlen
    obtain ⟨x, hg, rfl⟩ := jj_omap hs
    refine ⟨rfl, ?_⟩
    intro l D ad cA b sc p e R s m args below meth c d H locs cells slots Q ls hAd Cx hsc hP hS hl k
    obtain ⟨hx, hb, hr, hlk, hml, hown, hts, hK, hKa, hX, hbl, hfr, hlo⟩ := Cx
    exact lv_ldcw hx hb hown (hts _ (jj_ld_ok _ (q, x) (jj_look hg))) hd (k _ _ _ hP hS hl)
  | ldc2_w q =>
    obtain rfl : 3 = len := hlen
    obtain ⟨x, hg, rfl⟩ := jj_omap hs
    refine ⟨rfl, ?_⟩
    intro l D ad cA b sc p e R s m args below meth c d H locs cells slots Q ls hAd Cx hsc hP hS hl k
    obtain ⟨hx, hb, hr, hlk, hml, hown, hts, hK, hKa, hX, hbl, hfr, hlo⟩ := Cx
    exact lv_ldc2 hx hb hown (hts _ (jj_ll_ok _ (q, x) (jj_look hg))) hd (k _ _ _ hP hS hl)
  | iload q =>
    obtain rfl : 2 = len := hlen
    obtain ⟨x, hg, rfl⟩ := jj_omap hs
    refine ⟨rfl, ?_⟩
    intro l D ad cA b sc p e R s m args below meth c d H locs cells slots Q ls hAd Cx hsc hP hS hl k
    obtain ⟨hx, hb, hr, hlk, hml, hown, hts, hK, hKa, hX, hbl, hfr, hlo⟩ := Cx
    exact lv_iload hx hb hd (jj_gi_at hl hg).2 (k _ _ _ hP hS hl)
  | iload_n q =>
    obtain rfl : 1 = len := hlen
    obtain ⟨x, hg, rfl⟩ := jj_omap hs
    refine ⟨rfl, ?_⟩
    intro l D ad cA b sc p e R s m args below meth c d H locs cells slots Q ls hAd Cx hsc hP hS hl k
    obtain ⟨hx, hb, hr, hlk, hml, hown, hts, hK, hKa, hX, hbl, hfr, hlo⟩ := Cx
    exact lv_iload_n hx hb hd rfl (jj_gi_at hl hg).2 (k _ _ _ hP hS hl)
  | lload q =>
    obtain rfl : 2 = len := hlen
    obtain ⟨x, hg, rfl⟩ := jj_omap hs
    refine ⟨rfl, ?_⟩
    intro l D ad cA b sc p e R s m args below meth c d H locs cells slots Q ls hAd Cx hsc hP hS hl k
    obtain ⟨hx, hb, hr, hlk, hml, hown, hts, hK, hKa, hX, hbl, hfr, hlo⟩ := Cx
    exact lv_lload hx hb hd (jj_gl_at hl hg).2 (k _ _ _ hP hS hl)
  | lload_n q =>
    obtain rfl : 1 = len := hlen
    obtain ⟨x, hg, rfl⟩ := jj_omap hs
    refine ⟨rfl, ?_⟩
    intro l D ad cA b sc p e R s m args below meth c d H locs cells slots Q ls hAd Cx hsc hP hS hl k
    obtain ⟨hx, hb, hr, hlk, hml, hown, hts, hK, hKa, hX, hbl, hfr, hlo⟩ := Cx
    exact lv_lload_n hx hb hd rfl (jj_gl_at hl hg).2 (k _ _ _ hP hS hl)
  | aload q =>
    obtain rfl : 2 = len := hlen
    obtain ⟨x, hg, rfl⟩ := jj_omap hs
    refine ⟨rfl, ?_⟩
    intro l D ad cA b sc p e R s m args below meth c d H locs cells slots Q ls hAd Cx hsc hP hS hl k
    obtain ⟨hx, hb, hr, hlk, hml, hown, hts, hK, hKa, hX, hbl, hfr, hlo⟩ := Cx
    exact lv_aload hx hb hd (jj_gr_at hl hg).2 (k _ _ _ hP hS hl)
  | aload_n q =>
    obtain rfl : 1 = len := hlen
    obtain ⟨x, hg, rfl⟩ := jj_omap hs
    refine ⟨rfl, ?_⟩
    intro l D ad cA b sc p e R s m args below meth c d H locs cells slots Q ls hAd Cx hsc hP hS hl k
    obtain ⟨hx, hb, hr, hlk, hml, hown, hts, hK, hKa, hX, hbl, hfr, hlo⟩ := Cx
    exact lv_aload_n hx hb hd rfl (jj_gr_at hl hg).2 (k _ _ _ hP hS hl)
  | istore q =>
    obtain rfl : 2 = len := hlen
    obtain ⟨x, r, rfl, h1⟩ := jj_i_inv hs
    by_cases hi : (q : Nat) < lc.length
    rotate_left
    · rw [if_neg hi] at h1; cases h1
    rw [if_pos hi] at h1
    cases h1
    refine ⟨rfl, ?_⟩
    intro l D ad cA b sc p e R s m args below meth c d H locs cells slots Q ls hAd Cx hsc hP hS hl k
    obtain ⟨hx, hb, hr, hlk, hml, hown, hts, hK, hKa, hX, hbl, hfr, hlo⟩ := Cx
    exact lv_istore hx hb hd (jj_L.has hl) (by have := hl.2.1; omega) rfl (fun ls1 h1 => k _ _ _ hP hS (jj_L.set1 (v := .int x) hl h1))
  | istore_n q =>
    obtain rfl : 1 = len := hlen
    obtain ⟨x, r, rfl, h1⟩ := jj_i_inv hs
    by_cases hi : (q : Nat) < lc.length
    rotate_left
    · rw [if_neg hi] at h1; cases h1
    rw [if_pos hi] at h1
    cases h1
    refine ⟨rfl, ?_⟩
    intro l D ad cA b sc p e R s m args below meth c d H locs cells slots Q ls hAd Cx hsc hP hS hl k
    obtain ⟨hx, hb, hr, hlk, hml, hown, hts, hK, hKa, hX, hbl, hfr, hlo⟩ := Cx
    exact lv_istore_n hx hb hd rfl (jj_L.has hl) (by have := hl.2.1; omega) rfl (fun ls1 h1 => k _ _ _ hP hS (jj_L.set1 (v := .int x) hl h1))
  | astore q =>
    obtain rfl : 2 = len := hlen
    obtain ⟨x, r, rfl, h1⟩ := jj_r_inv hs
    by_cases hi : (q : Nat) < lc.length
    rotate_left
    · rw [if_neg hi] at h1; cases h1
    rw [if_pos hi] at h1
    cases h1
    refine ⟨rfl, ?_⟩
    intro l D ad cA b sc p e R s m args below meth c d H locs cells slots Q ls hAd Cx hsc hP hS hl k
    obtain ⟨hx, hb, hr, hlk, hml, hown, hts, hK, hKa, hX, hbl, hfr, hlo⟩ := Cx
    exact lv_astore hx hb hd (jj_L.has hl) (by have := hl.2.1; omega) rfl (fun ls1 h1 => k _ _ _ hP hS (jj_L.set1 (v := .ref x) hl h1))
  | astore_n q =>
    obtain rfl : 1 = len := hlen
    obtain ⟨x, r, rfl, h1⟩ := jj_r_inv hs
    by_cases hi : (q : Nat) < lc.length
    rotate_left
    · rw [if_neg hi] at h1; cases h1
    rw [if_pos hi] at h1
    cases h1
    refine ⟨rfl, ?_⟩
    intro l D ad cA b sc p e R s m args below meth c d H locs cells slots Q ls hAd Cx hsc hP hS hl k
    obtain ⟨hx, hb, hr, hlk, hml, hown, hts, hK, hKa, hX, hbl, hfr, hlo⟩ := Cx
    exact lv_astore_n hx hb hd rfl (jj_L.has hl) (by have := hl.2.1; omega) rfl (fun ls1 h1 => k _ _ _ hP hS (jj_L.set1 (v := .ref x) hl h1))
  | lstore q =>
    obtain rfl : 2 = len := hlen
    obtain ⟨x, r, rfl, h1⟩ := jj_l_inv hs
    by_cases hi : (q : Nat) + 1 < lc.length
    rotate_left
    · rw [if_neg hi] at h1; cases h1
    rw [if_pos hi] at h1
    cases h1
    refine ⟨rfl, ?_⟩
    intro l D ad cA b sc p e R s m args below meth c d H locs cells slots Q ls hAd Cx hsc hP hS hl k
    obtain ⟨hx, hb, hr, hlk, hml, hown, hts, hK, hKa, hX, hbl, hfr, hlo⟩ := Cx
    exact lv_lstore hx hb hd (jj_L.has hl) (by have := hl.2.1; omega) rfl (fun ls1 h1 => k _ _ _ hP hS (jj_L.set2 (v := .long x) hl h1))
  | lstore_n q =>
    obtain rfl : 1 = len := hlen
    obtain ⟨x, r, rfl, h1⟩ := jj_l_inv hs
    by_cases hi : (q : Nat) + 1 < lc.length
    rotate_left
    · rw [if_neg hi] at h1; cases h1
    rw [if_pos hi] at h1
    cases h1
    refine ⟨rfl, ?_⟩
    intro l D ad cA b sc p e R s m args below meth c d H locs cells slots Q ls hAd Cx hsc hP hS hl k
    obtain ⟨hx, hb, hr, hlk, hml, hown, hts, hK, hKa, hX, hbl, hfr, hlo⟩ := Cx
    exact lv_lstore_n hx hb hd rfl (jj_L.has hl) (by have := hl.2.1; omega) rfl (fun ls1 h1 => k _ _ _ hP hS (jj_L.set2 (v := .long x) hl h1))
  | iinc q z =>
    obtain rfl : 3 = len := hlen
    obtain ⟨x, hg, rfl⟩ := jj_omap hs
    refine ⟨rfl, ?_⟩
    intro l D ad cA b sc p e R s m args below meth c d H locs cells slots Q ls hAd Cx hsc hP hS hl k
    obtain ⟨hx, hb, hr, hlk, hml, hown, hts, hK, hKa, hX, hbl, hfr, hlo⟩ := Cx
    obtain ⟨g1, g2⟩ := jj_gi_at hl hg
    obtain ⟨u, hu⟩ := List.getElem?_of_mem (jj_al_in (ad := ad) g1 (by simp))
    exact lv_iinc hx hb hd (jj_L.has hl) hu rfl (by have := hl.2.1; have := (List.getElem?_eq_some_iff.mp g1).1; omega) rfl (fun ls1 h1 => k _ _ _ hP hS (jj_L.set1 (v := .int (x + Int32.ofInt z)) hl h1))
  | dup =>
    obtain rfl : 1 = len := hlen
    have hs : jj_du st (fun v r => some (pc + 1, lc, v :: v :: r, h)) = some P := hs
    obtain ⟨v, r, rfl, hv, h1⟩ := jj_du_inv hs
    cases h1
    refine ⟨rfl, ?_⟩
    intro l D ad cA b sc p e R s m args below meth c d H locs cells slots Q ls hAd Cx hsc hP hS hl k
    obtain ⟨hx, hb, hr, hlk, hml, hown, hts, hK, hKa, hX, hbl, hfr, hlo⟩ := Cx
    exact lv_dup hx hb hd (by rw [jj_tr_cat]; exact hv) (k _ _ _ hP hS hl)
  | dup2 =>
    obtain rfl : 1 = len := hlen
    obtain ⟨a, i, r, rfl, h1⟩ := jj_ri_inv hs
    cases h1
    refine ⟨rfl, ?_⟩
    intro l D ad cA b sc p e R s m args below meth c d H locs cells slots Q ls hAd Cx hsc hP hS hl k
    obtain ⟨hx, hb, hr, hlk, hml, hown, hts, hK, hKa, hX, hbl, hfr, hlo⟩ := Cx
    exact lv_dup2_11 hx hb hd rfl rfl (k _ _ _ hP hS hl)
  | iadd =>
    obtain rfl : 1 = len := hlen
    obtain ⟨x, y, r, rfl, h1⟩ := jj_ii_inv hs
    cases h1
    refine ⟨rfl, ?_⟩
    intro l D ad cA b sc p e R s m args below meth c d H locs cells slots Q ls hAd Cx hsc hP hS hl k
    obtain ⟨hx, hb, hr, hlk, hml, hown, hts, hK, hKa, hX, hbl, hfr, hlo⟩ := Cx
    exact lv_iadd hx hb hd (k _ _ _ hP hS hl)
  | isub =>
    obtain rfl : 1 = len := hlen
    obtain ⟨x, y, r, rfl, h1⟩ := jj_ii_inv hs
    cases h1
    refine ⟨rfl, ?_⟩
    intro l D ad cA b sc p e R s m args below meth c d H locs cells slots Q ls hAd Cx hsc hP hS hl k
    obtain ⟨hx, hb, hr, hlk, hml, hown, hts, hK, hKa, hX, hbl, hfr, hlo⟩ := Cx
    exact lv_isub hx hb hd (k _ _ _ hP hS hl)
  | imul =>
    obtain rfl : 1 = len := hlen
    obtain ⟨x, y, r, rfl, h1⟩ := jj_ii_inv hs
    cases h1
    refine ⟨rfl, ?_⟩
    intro l D ad cA b sc p e R s m args below meth c d H locs cells slots Q ls hAd Cx hsc hP hS hl k
    obtain ⟨hx, hb, hr, hlk, hml, hown, hts, hK, hKa, hX, hbl, hfr, hlo⟩ := Cx
    exact lv_imul hx hb hd (k _ _ _ hP hS hl)
  | iand =>
    obtain rfl : 1 = len := hlen
    obtain ⟨x, y, r, rfl, h1⟩ := jj_ii_inv hs
    cases h1
    refine ⟨rfl, ?_⟩
    intro l D ad cA b sc p e R s m args below meth c d H locs cells slots Q ls hAd Cx hsc hP hS hl k
    obtain ⟨hx, hb, hr, hlk, hml, hown, hts, hK, hKa, hX, hbl, hfr, hlo⟩ := Cx
    exact lv_iand hx hb hd (k _ _ _ hP hS hl)
  | ior =>
    obtain rfl : 1 = len := hlen
    obtain ⟨x, y, r, rfl, h1⟩ := jj_ii_inv hs
    cases h1
    refine ⟨rfl, ?_⟩
    intro l D ad cA b sc p e R s m args below meth c d H locs cells slots Q ls hAd Cx hsc hP hS hl k
    obtain ⟨hx, hb, hr, hlk, hml, hown, hts, hK, hKa, hX, hbl, hfr, hlo⟩ := Cx
    exact lv_ior hx hb hd (k _ _ _ hP hS hl)
  | ixor =>
    obtain rfl : 1 = len := hlen
    obtain ⟨x, y, r, rfl, h1⟩ := jj_ii_inv hs
    cases h1
    refine ⟨rfl, ?_⟩
    intro l D ad cA b sc p e R s m args below meth c d H locs cells slots Q ls hAd Cx hsc hP hS hl k
    obtain ⟨hx, hb, hr, hlk, hml, hown, hts, hK, hKa, hX, hbl, hfr, hlo⟩ := Cx
    exact lv_ixor hx hb hd (k _ _ _ hP hS hl)
  | ishl =>
    obtain rfl : 1 = len := hlen
    obtain ⟨x, y, r, rfl, h1⟩ := jj_ii_inv hs
    cases h1
    refine ⟨rfl, ?_⟩
    intro l D ad cA b sc p e R s m args below meth c d H locs cells slots Q ls hAd Cx hsc hP hS hl k
    obtain ⟨hx, hb, hr, hlk, hml, hown, hts, hK, hKa, hX, hbl, hfr, hlo⟩ := Cx
    exact lv_ishl hx hb hd (k _ _ _ hP hS hl)
  | ishr =>
    obtain rfl : 1 = len := hlen
    obtain ⟨x, y, r, rfl, h1⟩ := jj_ii_inv hs
    cases h1
    refine ⟨rfl, ?_⟩
    intro l D ad cA b sc p e R s m args below meth c d H locs cells slots Q ls hAd Cx hsc hP hS hl k
    obtain ⟨hx, hb, hr, hlk, hml, hown, hts, hK, hKa, hX, hbl, hfr, hlo⟩ := Cx
    exact lv_ishr hx hb hd (k _ _ _ hP hS hl)
  | iushr =>
    obtain rfl : 1 = len := hlen
    obtain ⟨x, y, r, rfl, h1⟩ := jj_ii_inv hs
    cases h1
    refine ⟨rfl, ?_⟩
    intro l D ad cA b sc p e R s m args below meth c d H locs cells slots Q ls hAd Cx hsc hP hS hl k
    obtain ⟨hx, hb, hr, hlk, hml, hown, hts, hK, hKa, hX, hbl, hfr, hlo⟩ := Cx
    exact lv_iushr hx hb hd rfl (k _ _ _ hP hS hl)
  | ladd =>
    obtain rfl : 1 = len := hlen
    obtain ⟨x, y, r, rfl, h1⟩ := jj_ll_inv hs
    cases h1
    refine ⟨rfl, ?_⟩
    intro l D ad cA b sc p e R s m args below meth c d H locs cells slots Q ls hAd Cx hsc hP hS hl k
    obtain ⟨hx, hb, hr, hlk, hml, hown, hts, hK, hKa, hX, hbl, hfr, hlo⟩ := Cx
    exact lv_ladd hx hb hd (k _ _ _ hP hS hl)
  | lsub =>
    obtain rfl : 1 = len := hlen
    obtain ⟨x, y, r, rfl, h1⟩ := jj_ll_inv hs
    cases h1
    refine ⟨rfl, ?_⟩
    intro l D ad cA b sc p e R s m args below meth c d H locs cells slots Q ls hAd Cx hsc hP hS hl k
    obtain ⟨hx, hb, hr, hlk, hml, hown, hts, hK, hKa, hX, hbl, hfr, hlo⟩ := Cx
    exact lv_lsub hx hb hd (k _ _ _ hP hS hl)
  | lmul =>
    obtain rfl : 1 = len := hlen
    obtain ⟨x, y, r, rfl, h1⟩ := jj_ll_inv hs
    cases h1
    refine ⟨rfl, ?_⟩
    intro l D ad cA b sc p e R s m args below meth c d H locs cells slots Q ls hAd Cx hsc hP hS hl k
    obtain ⟨hx, hb, hr, hlk, hml, hown, hts, hK, hKa, hX, hbl, hfr, hlo⟩ := Cx
    exact lv_lmul hx hb hd (k _ _ _ hP hS hl)
  | idiv =>
    obtain rfl : 1 = len := hlen
    obtain ⟨x, y, r, rfl, h1⟩ := jj_ii_inv hs
    by_cases hi : y = 0
    · rw [if_pos hi] at h1; cases h1
    rw [if_neg hi] at h1
    cases h1
    refine ⟨rfl, ?_⟩
    intro l D ad cA b sc p e R s m args below meth c d H locs cells slots Q ls hAd Cx hsc hP hS hl k
    obtain ⟨hx, hb, hr, hlk, hml, hown, hts, hK, hKa, hX, hbl, hfr, hlo⟩ := Cx
    exact lv_idiv hx hb hd hi (k _ _ _ hP hS hl)
  | irem =>
    obtain rfl : 1 = len := hlen
    obtain ⟨x, y, r, rfl, h1⟩ := jj_ii_inv hs
    by_cases hi : y = 0
    · rw [if_pos hi] at h1; cases h1
    rw [if_neg hi] at h1
    cases h1
    refine ⟨rfl, ?_⟩
    intro l D ad cA b sc p e R s m args below meth c d H locs cells slots Q ls hAd Cx hsc hP hS hl k
    obtain ⟨hx, hb, hr, hlk, hml, hown, hts, hK, hKa, hX, hbl, hfr, hlo⟩ := Cx
    exact lv_irem hx hb hd hi (k _ _ _ hP hS hl)
  | ldiv =>
    obtain rfl : 1 = len := hlen
    obtain ⟨x, y, r, rfl, h1⟩ := jj_ll_inv hs
    by_cases hi : y = 0
    · rw [if_pos hi] at h1; cases h1
    rw [if_neg hi] at h1
    cases h1
    refine ⟨rfl, ?_⟩
    intro l D ad cA b sc p e R s m args below meth c d H locs cells slots Q ls hAd Cx hsc hP hS hl k
    obtain ⟨hx, hb, hr, hlk, hml, hown, hts, hK, hKa, hX, hbl, hfr, hlo⟩ := Cx
    exact lv_ldiv hx hb hd hi (k _ _ _ hP hS hl)
  | lrem =>
    obtain rfl : 1 = len := hlen
    obtain ⟨x, y, r, rfl, h1⟩ := jj_ll_inv hs
    by_cases hi : y = 0
    · rw [if_pos hi] at h1; cases h1
    rw [if_neg hi] at h1
    cases h1
    refine ⟨rfl, ?_⟩
    intro l D ad cA b sc p e R s m args below meth c d H locs cells slots Q ls hAd Cx hsc hP hS hl k
    obtain ⟨hx, hb, hr, hlk, hml, hown, hts, hK, hKa, hX, hbl, hfr, hlo⟩ := Cx
    exact lv_lrem hx hb hd hi (k _ _ _ hP hS hl)
  | ineg =>
    obtain rfl : 1 = len := hlen
    obtain ⟨x, r, rfl, h1⟩ := jj_i_inv hs
    cases h1
    refine ⟨rfl, ?_⟩
    intro l D ad cA b sc p e R s m args below meth c d H locs cells slots Q ls hAd Cx hsc hP hS hl k
    obtain ⟨hx, hb, hr, hlk, hml, hown, hts, hK, hKa, hX, hbl, hfr, hlo⟩ := Cx
    exact lv_ineg hx hb hd (k _ _ _ hP hS hl)
  | lneg =>
    obtain rfl : 1 = len := hlen
    obtain ⟨x, r, rfl, h1⟩ := jj_l_inv hs
    cases h1
    refine ⟨rfl, ?_⟩
    intro l D ad cA b sc p e R s m args below meth c d H locs cells slots Q ls hAd Cx hsc hP hS hl k
    obtain ⟨hx, hb, hr, hlk, hml, hown, hts, hK, hKa, hX, hbl, hfr, hlo⟩ := Cx
    exact lv_lneg hx hb hd (k _ _ _ hP hS hl)
  | lcmp =>
    obtain rfl : 1 = len := hlen
    obtain ⟨x, y, r, rfl, h1⟩ := jj_ll_inv hs
    cases h1
    refine ⟨rfl, ?_⟩
    intro l D ad cA b sc p e R s m args below meth c d H locs cells slots Q ls hAd Cx hsc hP hS hl k
    obtain ⟨hx, hb, hr, hlk, hml, hown, hts, hK, hKa, hX, hbl, hfr, hlo⟩ := Cx
    exact W.lcmp hx hb hd (k _ _ _ hP hS hl)
  | i2l =>
    obtain rfl : 1 = len := hlen
    obtain ⟨x, r, rfl, h1⟩ := jj_i_inv hs
    cases h1
    refine ⟨rfl, ?_⟩
    intro l D ad cA b sc p e R s m args below meth c d H locs cells slots Q ls hAd Cx hsc hP hS hl k
    obtain ⟨hx, hb, hr, hlk, hml, hown, hts, hK, hKa, hX, hbl, hfr, hlo⟩ := Cx
    exact lv_i2l hx hb hd rfl (k _ _ _ hP hS hl)
  | l2i =>
    obtain rfl : 1 = len := hlen
    obtain ⟨x, r, rfl, h1⟩ := jj_l_inv hs
    cases h1
    refine ⟨rfl, ?_⟩
    intro l D ad cA b sc p e R s m args below meth c d H locs cells slots Q ls hAd Cx hsc hP hS hl k
    obtain ⟨hx, hb, hr, hlk, hml, hown, hts, hK, hKa, hX, hbl, hfr, hlo⟩ := Cx
    exact lv_l2i hx hb hd rfl (k _ _ _ hP hS hl)
  | goto off =>
    obtain rfl : 3 = len := hlen
    obtain ⟨t, hg, rfl⟩ := jj_omap hs
    refine ⟨rfl, ?_⟩
    intro l D ad cA b sc p e R s m args below meth c d H locs cells slots Q ls hAd Cx hsc hP hS hl k
    obtain ⟨hx, hb, hr, hlk, hml, hown, hts, hK, hKa, hX, hbl, hfr, hlo⟩ := Cx
    exact lv_goto hx hb hd (jj_jmp_at hg) (k _ _ _ hP hS hl)
  | ifCond cd off =>
    obtain rfl : 3 = len := hlen
    obtain ⟨x, r, rfl, h1⟩ := jj_i_inv hs
    obtain ⟨t, hg, rfl⟩ := jj_omap h1
    refine ⟨rfl, ?_⟩
    intro l D ad cA b sc p e R s m args below meth c d H locs cells slots Q ls hAd Cx hsc hP hS hl k
    obtain ⟨hx, hb, hr, hlk, hml, hown, hts, hK, hKa, hX, hbl, hfr, hlo⟩ := Cx
    cases cd
    · refine lv_if_eq hx hb hd (jj_jmp_at hg) (fun z => ?_) (fun z => ?_)
      · have e1 : (if jj_c1 .eq x = true then t else pc + 3) = t := if_pos (by simp [jj_c1, z])
        have k1 := k _ _ _ hP hS hl
        simp only [e1] at k1
        exact k1
      · have e1 : (if jj_c1 .eq x = true then t else pc + 3) = pc + 3 := if_neg (by simp [jj_c1, z])
        have k1 := k _ _ _ hP hS hl
        simp only [e1] at k1
        exact k1
    · refine lv_if_ne hx hb hd (jj_jmp_at hg) (fun z => ?_) (fun z => ?_)
      · have e1 : (if jj_c1 .ne x = true then t else pc + 3) = t := if_pos (by simp [jj_c1, z])
        have k1 := k _ _ _ hP hS hl
        simp only [e1] at k1
        exact k1
      · have e1 : (if jj_c1 .ne x = true then t else pc + 3) = pc + 3 := if_neg (by simp [jj_c1, z])
        have k1 := k _ _ _ hP hS hl
        simp only [e1] at k1
        exact k1
    · refine lv_if_lt hx hb hd (jj_jmp_at hg) (fun z => ?_) (fun z => ?_)
      · have e1 : (if jj_c1 .lt x = true then t else pc + 3) = t := if_pos (by simp [jj_c1, z])
        have k1 := k _ _ _ hP hS hl
        simp only [e1] at k1
        exact k1
      · have e1 : (if jj_c1 .lt x = true then t else pc + 3) = pc + 3 := if_neg (by simp [jj_c1, z])
        have k1 := k _ _ _ hP hS hl
        simp only [e1] at k1
        exact k1
    · refine lv_if_ge hx hb hd (jj_jmp_at hg) (fun z => ?_) (fun z => ?_)
      · have e1 : (if jj_c1 .ge x = true then t else pc + 3) = t := if_pos (by simp [jj_c1, z])
        have k1 := k _ _ _ hP hS hl
        simp only [e1] at k1
        exact k1
      · have e1 : (if jj_c1 .ge x = true then t else pc + 3) = pc + 3 := if_neg (by simp [jj_c1, z])
        have k1 := k _ _ _ hP hS hl
        simp only [e1] at k1
        exact k1
    · refine lv_if_gt hx hb hd (jj_jmp_at hg) (fun z => ?_) (fun z => ?_)
      · have e1 : (if jj_c1 .gt x = true then t else pc + 3) = t := if_pos (by simp [jj_c1, z])
        have k1 := k _ _ _ hP hS hl
        simp only [e1] at k1
        exact k1
      · have e1 : (if jj_c1 .gt x = true then t else pc + 3) = pc + 3 := if_neg (by simp [jj_c1, z])
        have k1 := k _ _ _ hP hS hl
        simp only [e1] at k1
        exact k1
    · refine lv_if_le hx hb hd (jj_jmp_at hg) (fun z => ?_) (fun z => ?_)
      · have e1 : (if jj_c1 .le x = true then t else pc + 3) = t := if_pos (by simp [jj_c1, z])
        have k1 := k _ _ _ hP hS hl
        simp only [e1] at k1
        exact k1
      · have e1 : (if jj_c1 .le x = true then t else pc + 3) = pc + 3 := if_neg (by simp [jj_c1, z])
        have k1 := k _ _ _ hP hS hl
        simp only [e1] at k1
        exact k1
  | if_icmp cd off =>
    obtain rfl : 3 = len := hlen
    obtain ⟨x, y, r, rfl, h1⟩ := jj_ii_inv hs
    obtain ⟨t, hg, rfl⟩ := jj_omap h1
    refine ⟨rfl, ?_⟩
    intro l D ad cA b sc p e R s m args below meth c d H locs cells slots Q ls hAd Cx hsc hP hS hl k
    obtain ⟨hx, hb, hr, hlk, hml, hown, hts, hK, hKa, hX, hbl, hfr, hlo⟩ := Cx
    cases cd
    · refine lv_icmp_eq hx hb hd (jj_jmp_at hg) (fun z => ?_) (fun z => ?_)
      · have e1 : (if jj_c2 .eq x y = true then t else pc + 3) = t := if_pos (by simp [jj_c2, z])
        have k1 := k _ _ _ hP hS hl
        simp only [e1] at k1
        exact k1
      · have e1 : (if jj_c2 .eq x y = true then t else pc + 3) = pc + 3 := if_neg (by simp [jj_c2, z])
        have k1 := k _ _ _ hP hS hl
        simp only [e1] at k1
        exact k1
    · refine lv_icmp_ne hx hb hd (jj_jmp_at hg) (fun z => ?_) (fun z => ?_)
      · have e1 : (if jj_c2 .ne x y = true then t else pc + 3) = t := if_pos (by simp [jj_c2, z])
        have k1 := k _ _ _ hP hS hl
        simp only [e1] at k1
        exact k1
      · have e1 : (if jj_c2 .ne x y = true then t else pc + 3) = pc + 3 := if_neg (by simp [jj_c2, z])
        have k1 := k _ _ _ hP hS hl
        simp only [e1] at k1
        exact k1
    · refine lv_icmp_lt hx hb hd (jj_jmp_at hg) (fun z => ?_) (fun z => ?_)
      · have e1 : (if jj_c2 .lt x y = true then t else pc + 3) = t := if_pos (by simp [jj_c2, z])
        have k1 := k _ _ _ hP hS hl
        simp only [e1] at k1
        exact k1
      · have e1 : (if jj_c2 .lt x y = true then t else pc + 3) = pc + 3 := if_neg (by simp [jj_c2, z])
        have k1 := k _ _ _ hP hS hl
        simp only [e1] at k1
        exact k1
    · refine lv_icmp_ge hx hb hd (jj_jmp_at hg) (fun z => ?_) (fun z => ?_)
      · have e1 : (if jj_c2 .ge x y = true then t else pc + 3) = t := if_pos (by simp [jj_c2, z])
        have k1 := k _ _ _ hP hS hl
        simp only [e1] at k1
        exact k1
      · have e1 : (if jj_c2 .ge x y = true then t else pc + 3) = pc + 3 := if_neg (by simp [jj_c2, z])
        have k1 := k _ _ _ hP hS hl
        simp only [e1] at k1
        exact k1
    · refine lv_icmp_gt hx hb hd (jj_jmp_at hg) (fun z => ?_) (fun z => ?_)
      · have e1 : (if jj_c2 .gt x y = true then t else pc + 3) = t := if_pos (by simp [jj_c2, z])
        have k1 := k _ _ _ hP hS hl
        simp only [e1] at k1
        exact k1
      · have e1 : (if jj_c2 .gt x y = true then t else pc + 3) = pc + 3 := if_neg (by simp [jj_c2, z])
        have k1 := k _ _ _ hP hS hl
        simp only [e1] at k1
        exact k1
    · refine lv_icmp_le hx hb hd (jj_jmp_at hg) (fun z => ?_) (fun z => ?_)
      · have e1 : (if jj_c2 .le x y = true then t else pc + 3) = t := if_pos (by simp [jj_c2, z])
        have k1 := k _ _ _ hP hS hl
        simp only [e1] at k1
        exact k1
      · have e1 : (if jj_c2 .le x y = true then t else pc + 3) = pc + 3 := if_neg (by simp [jj_c2, z])
        have k1 := k _ _ _ hP hS hl
        simp only [e1] at k1
        exact k1
  | tableswitch dflt lo hi offs =>
    obtain ⟨x, r, rfl, h1⟩ := jj_i_inv hs
    obtain ⟨off, ho, h2⟩ := jj_bmap (γ := Nat) h1
    obtain ⟨t, hg, rfl⟩ := jj_omap h2
    refine ⟨rfl, ?_⟩
    intro l D ad cA b sc p e R s m args below meth c d H locs cells slots Q ls hAd Cx hsc hP hS hl k
    obtain ⟨hx, hb, hr, hlk, hml, hown, hts, hK, hKa, hX, hbl, hfr, hlo⟩ := Cx
    unfold jj_tsw at ho
    by_cases hz : x.toInt < lo ∨ hi < x.toInt
    · rw [if_pos hz] at ho
      cases ho
      exact lv_tableOut hx hb hd hz (jj_jmp_at hg) (k _ _ _ hP hS hl)
    · rw [if_neg hz] at ho
      exact lv_tableIn hx hb hd (fun z => hz (Or.inl z)) (fun z => hz (Or.inr z)) ho (jj_jmp_at hg) (k _ _ _ hP hS hl)
  | getfield q =>
    obtain rfl : 3 = len := hlen
    obtain ⟨a, r, rfl, h1⟩ := jj_r_inv hs
    obtain ⟨⟨ci, kf⟩, hf, h2⟩ := jj_bmap (γ := Nat) h1
    by_cases hi : jj_sh[a]? = some (.inl ci) ∧ kf < jj_nf ci
    rotate_left
    · rw [if_neg hi] at h2; cases h2
    rw [if_pos hi] at h2
    cases h2
    refine ⟨rfl, ?_⟩
    intro l D ad cA b sc p e R s m args below meth c d H locs cells slots Q ls hAd Cx hsc hP hS hl k
    obtain ⟨hx, hb, hr, hlk, hml, hown, hts, hK, hKa, hX, hbl, hfr, hlo⟩ := Cx
    obtain ⟨ha, hc1, hc2, hc3, hc4, hc5⟩ := jj_clsL hi.1
    exact va_get hx hb hts hc2 hown hK hP a (by rw [jj_w_get ha, jj_ce_ob hi.1]) hc1 kf hi.2 (hts _ (jj_fl_ok _ (q, ci, kf) (jj_look hf))) (fun _ z => z) (jj_fs_get hi.2) hd (k _ _ _ hP hS hl)
  | putfield q =>
    obtain rfl : 3 = len := hlen
    obtain ⟨⟨ci, kf⟩, hf, h2⟩ := jj_bmap (γ := Nat) hs
    dsimp only at h2
    split at h2
    next hty =>
      obtain ⟨a, x, r, rfl, h3⟩ := jj_ri_inv h2
      by_cases hi : jj_sh[a]? = some (.inl ci) ∧ kf < jj_nf ci
      rotate_left
      · rw [if_neg hi] at h3; cases h3
      rw [if_pos hi] at h3
      cases h3
      refine ⟨rfl, ?_⟩
      intro l D ad cA b sc p e R s m args below meth c d H locs cells slots Q ls hAd Cx hsc hP hS hl k
      obtain ⟨hx, hb, hr, hlk, hml, hown, hts, hK, hKa, hX, hbl, hfr, hlo⟩ := Cx
      obtain ⟨ha, hc1, hc2, hc3, hc4, hc5⟩ := jj_clsL hi.1
      have hk := hi.2
      refine va_put (ty := .int) (v := .int x) hx hb hts hc2 (jj_fty ci) hc3 hc4 hown hK hP (jj_Dd hAd cA h) hS a (by rw [jj_w_get ha, jj_ce_ob hi.1]) hc1 kf hk (hts _ (jj_fl_ok _ (q, ci, kf) (jj_look hf))) (fun _ z => z) (hc5 kf hk (Or.inl hty)) (by rw [hc3 kf hk, hty]) rfl rfl (by simpa using hk) hd (fun H1 locs1 hP1 _ hS1 => k _ _ _ ?_ hS1 hl)
      rw [jj_w_set (h' := jj_iu h a kf x) (by rw [jj_ce_ob hi.1, jj_fs_set hk (h' := jj_iu h a kf x) (by rw [jj_gf_int hty, jj_iu_at, jj_upd_at]; rfl) (fun j hj => jj_gf_iu hj)]) jj_iu_o] at hP1
      exact hP1
    next hty =>
      obtain ⟨a, x, r, rfl, h3⟩ := jj_ri_inv h2
      by_cases hi : jj_sh[a]? = some (.inl ci) ∧ kf < jj_nf ci ∧ jj_b01 x = true
      rotate_left
      · rw [if_neg hi] at h3; cases h3
      rw [if_pos hi] at h3
      cases h3
      refine ⟨rfl, ?_⟩
      intro l D ad cA b sc p e R s m args below meth c d H locs cells slots Q ls hAd Cx hsc hP hS hl k
      obtain ⟨hx, hb, hr, hlk, hml, hown, hts, hK, hKa, hX, hbl, hfr, hlo⟩ := Cx
      obtain ⟨ha, hc1, hc2, hc3, hc4, hc5⟩ := jj_clsL hi.1
      have hk := hi.2.1
      refine va_put (ty := .boolean) (v := .int x) hx hb hts hc2 (jj_fty ci) hc3 hc4 hown hK hP (jj_Dd hAd cA h) hS a (by rw [jj_w_get ha, jj_ce_ob hi.1]) hc1 kf hk (hts _ (jj_fl_ok _ (q, ci, kf) (jj_look hf))) (fun _ z => z) (hc5 kf hk (Or.inr (Or.inl hty))) (by rw [hc3 kf hk, hty]) (by rcases jj_b01_or hi.2.2 with rfl | rfl <;> rfl) (by rcases jj_b01_or hi.2.2 with rfl | rfl <;> rfl) (by simpa using hk) hd (fun H1 locs1 hP1 _ hS1 => k _ _ _ ?_ hS1 hl)
      rw [jj_w_set (h' := jj_iu h a kf x) (by rw [jj_ce_ob hi.1, jj_fs_set hk (h' := jj_iu h a kf x) (by rw [jj_gf_bool hty, jj_iu_at, jj_upd_at]; rfl) (fun j hj => jj_gf_iu hj)]) jj_iu_o] at hP1
      exact hP1
    next hty =>
      obtain ⟨a, x, r, rfl, h3⟩ := jj_rl_inv h2
      by_cases hi : jj_sh[a]? = some (.inl ci) ∧ kf < jj_nf ci
      rotate_left
      · rw [if_neg hi] at h3; cases h3
      rw [if_pos hi] at h3
      cases h3
      refine ⟨rfl, ?_⟩
      intro l D ad cA b sc p e R s m args below meth c d H locs cells slots Q ls hAd Cx hsc hP hS hl k
      obtain ⟨hx, hb, hr, hlk, hml, hown, hts, hK, hKa, hX, hbl, hfr, hlo⟩ := Cx
      obtain ⟨ha, hc1, hc2, hc3, hc4, hc5⟩ := jj_clsL hi.1
      have hk := hi.2
      refine va_put (ty := .long) (v := .long x) hx hb hts hc2 (jj_fty ci) hc3 hc4 hown hK hP (jj_Dd hAd cA h) hS a (by rw [jj_w_get ha, jj_ce_ob hi.1]) hc1 kf hk (hts _ (jj_fl_ok _ (q, ci, kf) (jj_look hf))) (fun _ z => z) (hc5 kf hk (Or.inr (Or.inr hty))) (by rw [hc3 kf hk, hty]) rfl rfl (by simpa using hk) hd (fun H1 locs1 hP1 _ hS1 => k _ _ _ ?_ hS1 hl)
      rw [jj_w_set (h' := jj_lu h a kf x) (by rw [jj_ce_ob hi.1, jj_fs_set hk (h' := jj_lu h a kf x) (by rw [jj_gf_long hty, jj_lu_at, jj_updL_at]; rfl) (fun j hj => jj_gf_lu hj)]) jj_lu_o] at hP1
      exact hP1
    next => cases h2
  | iaload =>
    obtain rfl : 1 = len := hlen
    obtain ⟨a, i, r, rfl, h1⟩ := jj_ri_inv hs
    by_cases hz : a = jj_sc
    · rw [if_pos hz] at h1
      by_cases hi : jj_inb i h.2.2.1 = true
      rotate_left
      · rw [if_neg hi] at h1; cases h1
      rw [if_pos hi] at h1
      cases h1
      refine ⟨rfl, ?_⟩
      intro l D ad cA b sc p e R s m args below meth c d H locs cells slots Q ls hAd Cx hsc hP hS hl k
      obtain ⟨hx, hb, hr, hlk, hml, hown, hts, hK, hKa, hX, hbl, hfr, hlo⟩ := Cx
      subst hz
      subst hsc
      have e1 : jj_tr ad (.ref jj_sc) = .ref b := by show Value.ref (ad jj_sc) = _; rw [hAd.2.2]
      show W p l e R s m args below meth c H locs cells slots Q (F0 m pc ls (.int i :: jj_tr ad (.ref jj_sc) :: r.map (jj_tr ad)))
      rw [e1]
      exact va_sld hx hb hX hbl (jj_nb hAd hbl) hS (jj_inb_in hi) hd (k _ _ _ hP hS hl)
    rw [if_neg hz] at h1
    split at h1
    · next n hn =>
      by_cases hi : jj_inb i n = true
      rotate_left
      · rw [if_neg hi] at h1; cases h1
      rw [if_pos hi] at h1
      cases h1
      refine ⟨rfl, ?_⟩
      intro l D ad cA b sc p e R s m args below meth c d H locs cells slots Q ls hAd Cx hsc hP hS hl k
      obtain ⟨hx, hb, hr, hlk, hml, hown, hts, hK, hKa, hX, hbl, hfr, hlo⟩ := Cx
      exact va_iald hx hb (hKa _ _ _ hn) hP a 0 (by rw [jj_w_get (jj_sh_lt hn), jj_ce_i hn]) rfl (jj_inb_in hi) hd (k _ _ _ hP hS hl)
    · cases h1
  | baload =>
    obtain rfl : 1 = len := hlen
    obtain ⟨a, i, r, rfl, h1⟩ := jj_ri_inv hs
    split at h1
    · next n hn =>
      by_cases hi : jj_inb i n = true
      rotate_left
      · rw [if_neg hi] at h1; cases h1
      rw [if_pos hi] at h1
      cases h1
      refine ⟨rfl, ?_⟩
      intro l D ad cA b sc p e R s m args below meth c d H locs cells slots Q ls hAd Cx hsc hP hS hl k
      obtain ⟨hx, hb, hr, hlk, hml, hown, hts, hK, hKa, hX, hbl, hfr, hlo⟩ := Cx
      exact va_zald hx hb (hKa _ _ _ hn) hP a 0 (by rw [jj_w_get (jj_sh_lt hn), jj_ce_z hn]) rfl (jj_inb_in hi) hd (k _ _ _ hP hS hl)
    · cases h1
  | laload =>
    obtain rfl : 1 = len := hlen
    obtain ⟨a, i, r, rfl, h1⟩ := jj_ri_inv hs
    split at h1
    · next n hn =>
      by_cases hi : jj_inb i n = true
      rotate_left
      · rw [if_neg hi] at h1; cases h1
      rw [if_pos hi] at h1
      cases h1
      refine ⟨rfl, ?_⟩
      intro l D ad cA b sc p e R s m args below meth c d H locs cells slots Q ls hAd Cx hsc hP hS hl k
      obtain ⟨hx, hb, hr, hlk, hml, hown, hts, hK, hKa, hX, hbl, hfr, hlo⟩ := Cx
      exact va_lald hx hb (hKa _ _ _ hn) hP a 0 (by rw [jj_w_get (jj_sh_lt hn), jj_ce_l hn]) rfl (jj_inb_in hi) hd (k _ _ _ hP hS hl)
    · cases h1
  | iastore =>
    obtain rfl : 1 = len := hlen
    obtain ⟨a, i, x, r, rfl, h1⟩ := jj_rii_inv hs
    split at h1
    · next n hn =>
      by_cases hi : jj_inb i n = true
      rotate_left
      · rw [if_neg hi] at h1; cases h1
      rw [if_pos hi] at h1
      cases h1
      refine ⟨rfl, ?_⟩
      intro l D ad cA b sc p e R s m args below meth c d H locs cells slots Q ls hAd Cx hsc hP hS hl k
      obtain ⟨hx, hb, hr, hlk, hml, hown, hts, hK, hKa, hX, hbl, hfr, hlo⟩ := Cx
      have hin := hi
      refine va_iast hx hb (hKa _ _ _ hn) hP (jj_Dd hAd cA h) hS a 0 (by rw [jj_w_get (jj_sh_lt hn), jj_ce_i hn]) rfl (jj_inb_in hin) hd (fun H1 locs1 hP1 _ hS1 => k _ _ _ ?_ hS1 hl)
      rw [jj_w_set (h' := jj_iu h a i.toNatClampNeg x) (by rw [jj_ce_i hn, jj_iu_at]) jj_iu_o] at hP1
      exact hP1
    · cases h1
  | bastore =>
    obtain rfl : 1 = len := hlen
    obtain ⟨a, i, x, r, rfl, h1⟩ := jj_rii_inv hs
    split at h1
    · next n hn =>
      by_cases hi : jj_inb i n = true ∧ jj_b01 x = true
      rotate_left
      · rw [if_neg hi] at h1; cases h1
      rw [if_pos hi] at h1
      cases h1
      refine ⟨rfl, ?_⟩
      intro l D ad cA b sc p e R s m args below meth c d H locs cells slots Q ls hAd Cx hsc hP hS hl k
      obtain ⟨hx, hb, hr, hlk, hml, hown, hts, hK, hKa, hX, hbl, hfr, hlo⟩ := Cx
      have hin := hi.1
      refine va_zast hx hb (hKa _ _ _ hn) hP (jj_Dd hAd cA h) hS a 0 (by rw [jj_w_get (jj_sh_lt hn), jj_ce_z hn]) rfl (jj_inb_in hin) hd (fun H1 locs1 hP1 _ hS1 => k _ _ _ ?_ hS1 hl)
      rw [show vp_nar .boolean x = x by rcases jj_b01_or hi.2 with rfl | rfl <;> decide] at hP1
      rw [jj_w_set (h' := jj_iu h a i.toNatClampNeg x) (by rw [jj_ce_z hn, jj_iu_at]) jj_iu_o] at hP1
      exact hP1
    · cases h1
  | lastore =>
    obtain rfl : 1 = len := hlen
    obtain ⟨a, i, x, r, rfl, h1⟩ := jj_ril_inv hs
    split at h1
    · next n hn =>
      by_cases hi : jj_inb i n = true
      rotate_left
      · rw [if_neg hi] at h1; cases h1
      rw [if_pos hi] at h1
      cases h1
      refine ⟨rfl, ?_⟩
      intro l D ad cA b sc p e R s m args below meth c d H locs cells slots Q ls hAd Cx hsc hP hS hl k
      obtain ⟨hx, hb, hr, hlk, hml, hown, hts, hK, hKa, hX, hbl, hfr, hlo⟩ := Cx
      have hin := hi
      refine va_last hx hb (hKa _ _ _ hn) hP (jj_Dd hAd cA h) hS a 0 (by rw [jj_w_get (jj_sh_lt hn), jj_ce_l hn]) rfl (jj_inb_in hin) hd (fun H1 locs1 hP1 _ hS1 => k _ _ _ ?_ hS1 hl)
      rw [jj_w_set (h' := jj_lu h a i.toNatClampNeg x) (by rw [jj_ce_l hn, jj_lu_at]) jj_lu_o] at hP1
      exact hP1
    · cases h1
  | arraylength =>
    obtain rfl : 1 = len := hlen
    obtain ⟨a, r, rfl, h1⟩ := jj_r_inv hs
    by_cases hz : a = jj_sc
    · rw [if_pos hz] at h1
      cases h1
      refine ⟨rfl, ?_⟩
      intro l D ad cA b sc p e R s m args below meth c d H locs cells slots Q ls hAd Cx hsc hP hS hl k
      obtain ⟨hx, hb, hr, hlk, hml, hown, hts, hK, hKa, hX, hbl, hfr, hlo⟩ := Cx
      subst hz
      subst hsc
      have e1 : jj_tr ad (.ref jj_sc) = .ref b := by show Value.ref (ad jj_sc) = _; rw [hAd.2.2]
      show W p l e R s m args below meth c H locs cells slots Q (F0 m pc ls (jj_tr ad (.ref jj_sc) :: r.map (jj_tr ad)))
      rw [e1]
      exact va_slen hx hb hX hbl (jj_nb hAd hbl) hS hd (k _ _ _ hP hS hl)
    rw [if_neg hz] at h1
    split at h1
    · next t n hn =>
      cases h1
      refine ⟨rfl, ?_⟩
      intro l D ad cA b sc p e R s m args below meth c d H locs cells slots Q ls hAd Cx hsc hP hS hl k
      obtain ⟨hx, hb, hr, hlk, hml, hown, hts, hK, hKa, hX, hbl, hfr, hlo⟩ := Cx
      obtain ⟨y, hy⟩ : ∃ y : vp_A, jj_ce ad cA h a = .inl (cA a, y) ∧ y.1 = n := by
        unfold jj_ce
        rw [hn]
        cases t <;> exact ⟨_, rfl, rfl⟩
      exact va_alen hx hb (hKa _ _ _ hn) hP a 0 (by rw [jj_w_get (jj_sh_lt hn), hy.1]) rfl (by rw [hy.2]) hd (k _ _ _ hP hS hl)
    · cases h1
  | _ => cases hs
end
section
/-! runs: the machine does what our function says, calls and all -/
def jj_ws (M : jj_M) : List Cond := Cond.code M.1.1 M.1.2 M.2.1 M.2.2.1 :: jj_wl
def jj_rm (d : Nat) : Room := { frames := d, cells := 0, slots := 0, locals := 60 * d }
def jj_Pc (D : va_G) (ad : Nat → Nat) (cA : Nat → ClassId) (b : Nat) (sc : Nat × (Nat → Int32)) (vs : List Value) (h : jj_Hp) (sz : Nat) : Array Value → State → Prop :=
  va_Pc (vs.map (jj_tr ad)) (fun U => U.heap.size = sz ∧ va_P D vwCl (jj_w ad cA h) U.heap ∧ va_K D vwCl [] U ∧ (∀ a t n, jj_sh[a]? = some (.inr (t, n)) → va_K D vwCl [(cA a, t)] U) ∧ va_X b sc.1 sc.2 U U.heap ∧ b < U.heap.size)
def jj_Q (D : va_G) (ad : Nat → Nat) (cA : Nat → ClassId) (rv : Option Value) (h' : jj_Hp) (A : Nat → Prop) : Array Value → State → Outcome → State → Prop := fun _ st oc t =>
  oc = .returned (rv.map (jj_tr ad)) ∧ va_P D vwCl (jj_w ad cA h') t.heap ∧ va_F A st t
/-- where a method ends -/
def jj_end (M : jj_M) (pc : Nat) (rv : Option Value) : Prop := ∃ ins st, decode M.1.2 pc = .ok (ins, 1) ∧ jj_fin M.2.2.1 ins st = some rv
def jj_Snd (l : Launch) (D : va_G) (ad : Nat → Nat) (cA : Nat → ClassId) (b : Nat) (sc : Nat × (Nat → Int32)) (d : Nat) (M : jj_M) (pc : Nat) (lc st : List Value) (h : jj_Hp) (rv : Option Value) (h' : jj_Hp) : Prop :=
  ∀ (p : Program) (e : Env) (R : Room) (s : State) (m : MethodId) (args : Array Value) (below : List Frame) (meth : Method) (c : Code), jj_Cx D cA b sc p R s m args meth c M d →
  ∀ (H : Heap) (locs : List Loc) (cells slots : Nat) (Q : State → Prop) (ls : Array Slot), va_P D vwCl (jj_w ad cA h) H → va_S (jj_A ad s.heap.size) s.heap H locs → jj_L ad ls M.2.1 lc → cells ≤ R.cells → slots ≤ R.slots →
    (∀ (H1 : Heap) (locs1 : List Loc) (pc1 : Nat) (ls1 : Array Slot), va_P D vwCl (jj_w ad cA h') H1 → va_S (jj_A ad s.heap.size) s.heap H1 locs1 → jj_end M pc1 rv → W p l e R s m args below meth c H1 locs1 cells slots Q (F0 m pc1 ls1 (rv.toList.map (jj_tr ad)))) →
    W p l e R s m args below meth c H locs cells slots Q (F0 m pc ls (st.map (jj_tr ad)))
/-- behind a call -/
theorem jj_call {p : Program} {l : Launch} {e : Env} {R : Room} {s : State} {m : MethodId} {args : Array Value} {below : List Frame} {meth : Method} {c : Code} {H : Heap} {locs : List Loc} {cells slots : Nat} {Q : State → Prop} {pc : Nat} {ls : Array Slot} {rest st0 : List Value} {a : Array Value} {A0 A1 : Nat → Prop} {H0 : Heap} {free : Addr → Prop} {D : va_G} {ad : Nat → Nat} {cA : Nat → ClassId} {rv : Option Value} {h' : jj_Hp}
    (hr : va_Run p l e R s m args below meth c H locs cells slots 0 0 (F0 m pc ls st0) rest (jj_Q D ad cA rv h' A1 a) free) (hS : va_S A0 H0 H locs) (hA : ∀ q, q < H.size → A1 q → A0 q) (hf : ∀ q, free q → A0 q)
    (kk : ∀ (H1 : Heap) (locs1 : List Loc), va_P D vwCl (jj_w ad cA h') H1 → va_S A0 H0 H1 locs1 → W p l e R s m args below meth c H1 locs1 cells slots Q (F0 m (pc + 3) ls ((rv.map (jj_tr ad)).toList ++ rest))) : W p l e R s m args below meth c H locs cells slots Q (F0 m pc ls st0) := by
  intro T hT X
  obtain ⟨v, st₀, t, T', L, h0, X', hL, e1, e2, ⟨hv, hp, hz, hk⟩, st⟩ := hr T hT X
  cases hv
  rw [h0] at hz hk
  obtain ⟨t2, a1, b1⟩ := kk T'.heap (locs ++ L) (by rw [e1]; exact hp)
    ⟨Nat.le_trans hS.1 (by rw [e1]; exact hz), fun q h1 h2 => by rw [e1, hk q (Nat.lt_of_lt_of_le h1 hS.1) (fun z => h2 (hA q (Nat.lt_of_lt_of_le h1 hS.1) z))]; exact hS.2.1 q h1 h2, fun q hq => by
      rcases List.mem_append.mp hq with h | h
      · exact hS.2.2 q h
      · exact hf _ (hL q h)⟩ T' rfl X'
  exact ⟨t2, st t2 a1, b1⟩
theorem jj_ofW {l : Launch} {y : MethodName} {ws ws' : List Cond} {rm : Room} {Pc : Array Value → State → Prop} {Qc : Array Value → State → Outcome → State → Prop} {mc ms : Nat} {free : Addr → Prop} {cc : ByteArray} {maxL : Nat} {ret : Option FieldType}
    (hy : plainFor y = true) (hw : ws = Cond.code y cc maxL ret :: ws')
    (body : ∀ p e s m args below meth c s₁, BodyLoose p l y (headSpec ws rm) cc maxL ret e s m args below meth c s₁ → c.maxLocals = maxL → Pc args s →
      W p l e (headSpec ws rm).room s m args below meth c s.heap [] 0 0 (MQ below Qc args s mc ms free) (entryFrame m args maxL)) : Met l y ws rm Pc Qc mc ms free := by
  refine MetFree.of_bodySF (code := cc) (maxLocals := maxL) (ret := ret) hy ?_ ?_
  · intro args s m h hn
    obtain ⟨meth, c, h1, h2, h3, h4, h5, h6, -, -⟩ := Cond.code_spec hn (atoms_spec (ws := ws) h _ (by rw [hw]; exact List.mem_cons_self))
    exact ⟨meth, c, h1, h2, h3, h4, h5, h6⟩
  · intro p e s m args below meth c s₁ B hml hP _
    have hh0 : s₁.heap = s.heap := by rw [B.state]; rfl
    obtain ⟨t, a1, o, b1, b2, b3⟩ := body p e s m args below meth c s₁ B hml hP s₁ hh0 (Stand.of_body B)
    exact ⟨t, o, a1, b1, b2, ⟨b3.1, b3.2⟩⟩
theorem jj_ent_len : ∀ (vs : List Value) (n : Nat), jj_wd vs ≤ n → n < 1000 → (jj_ent vs n).length = n ∧ (∀ ad, (lg_sl (vs.map (jj_tr ad))).length = jj_wd vs)
  | [], n, _, _ => ⟨by simp [jj_ent], fun ad => rfl⟩
  | .long x :: l, n, h, hn => by
    have h : jj_wd l + 2 ≤ n := h
    obtain ⟨h1, h2⟩ := jj_ent_len l (n - 2) (by omega) (by omega)
    refine ⟨by show (jj_ent l (n - 2)).length + 1 + 1 = n; omega, fun ad => ?_⟩
    show (lg_sl (Value.long x :: l.map (jj_tr ad))).length = jj_wd l + 2
    have e : lg_sl (Value.long x :: l.map (jj_tr ad)) = .val (.long x) :: .second :: lg_sl (l.map (jj_tr ad)) := rfl
    rw [e, ← h2 ad]; rfl
  | .int x :: l, n, h, hn => by
    have h : jj_wd l + 1 ≤ n := h
    obtain ⟨h1, h2⟩ := jj_ent_len l (n - 1) (by omega) (by omega)
    refine ⟨by show (jj_ent l (n - 1)).length + 1 = n; omega, fun ad => ?_⟩
    show (lg_sl (Value.int x :: l.map (jj_tr ad))).length = jj_wd l + 1
    have e : lg_sl (Value.int x :: l.map (jj_tr ad)) = .val (.int x) :: lg_sl (l.map (jj_tr ad)) := rfl
    rw [e, ← h2 ad]; rfl
  | .ref x :: l, n, h, hn => by
    have h : jj_wd l + 1 ≤ n := h
    obtain ⟨h1, h2⟩ := jj_ent_len l (n - 1) (by omega) (by omega)
    refine ⟨by show (jj_ent l (n - 1)).length + 1 = n; omega, fun ad => ?_⟩
    show (lg_sl (Value.ref (ad x) :: l.map (jj_tr ad))).length = jj_wd l + 1
    have e : lg_sl (Value.ref (ad x) :: l.map (jj_tr ad)) = .val (.ref (ad x)) :: lg_sl (l.map (jj_tr ad)) := rfl
    rw [e, ← h2 ad]; rfl
  | .float _ :: l, n, h, hn => by have h : 1000 ≤ n := h; omega
  | .double _ :: l, n, h, hn => by have h : 1000 ≤ n := h; omega
  | .null :: l, n, h, hn => by have h : 1000 ≤ n := h; omega
  | .retAddr _ :: l, n, h, hn => by have h : 1000 ≤ n := h; omega
theorem jj_ent_in (ad : Nat → Nat) : ∀ (vs : List Value) (n off : Nat), jj_wd vs ≤ n → n < 1000 → ∀ (i : Nat) (v : Value), (jj_ent vs n)[i]? = some v → v ≠ .null → (off + i, jj_tr ad v) ∈ lv_args off (vs.map (jj_tr ad))
  | [], n, off, _, _, i, v, h, hv => by
    have h : (List.replicate n Value.null)[i]? = some v := h
    rw [List.getElem?_replicate] at h
    split at h
    · cases h; exact absurd rfl hv
    · cases h
  | .long x :: l, n, off, hw, hn, i, v, h, hv => by
    have hw : jj_wd l + 2 ≤ n := hw
    show (off + i, jj_tr ad v) ∈ (off, Value.long x) :: lv_args (off + 2) (l.map (jj_tr ad))
    match i, h with
    | 0, h =>
      have h : some (Value.long x) = some v := h
      cases h
      exact List.mem_cons_self
    | 1, h =>
      have h : some Value.null = some v := h
      cases h
      exact absurd rfl hv
    | i + 2, h =>
      have h : (jj_ent l (n - 2))[i]? = some v := h
      have := jj_ent_in ad l (n - 2) (off + 2) (by omega) (by omega) i v h hv
      rw [show off + (i + 2) = off + 2 + i by omega]
      exact List.mem_cons_of_mem _ this
  | .int x :: l, n, off, hw, hn, i, v, h, hv => by
    have hw : jj_wd l + 1 ≤ n := hw
    show (off + i, jj_tr ad v) ∈ (off, Value.int x) :: lv_args (off + 1) (l.map (jj_tr ad))
    match i, h with
    | 0, h =>
      have h : some (Value.int x) = some v := h
      cases h
      exact List.mem_cons_self
    | i + 1, h =>
      have h : (jj_ent l (n - 1))[i]? = some v := h
      have := jj_ent_in ad l (n - 1) (off + 1) (by omega) (by omega) i v h hv
      rw [show off + (i + 1) = off + 1 + i by omega]
      exact List.mem_cons_of_mem _ this
  | .ref x :: l, n, off, hw, hn, i, v, h, hv => by
    have hw : jj_wd l + 1 ≤ n := hw
    show (off + i, jj_tr ad v) ∈ (off, Value.ref (ad x)) :: lv_args (off + 1) (l.map (jj_tr ad))
    match i, h with
    | 0, h =>
      have h : some (Value.ref x) = some v := h
      cases h
      exact List.mem_cons_self
    | i + 1, h =>
      have h : (jj_ent l (n - 1))[i]? = some v := h
      have := jj_ent_in ad l (n - 1) (off + 1) (by omega) (by omega) i v h hv
      rw [show off + (i + 1) = off + 1 + i by omega]
      exact List.mem_cons_of_mem _ this
  | .float _ :: l, n, off, hw, hn, i, v, h, hv => by have hw : 1000 ≤ n := hw; omega
  | .double _ :: l, n, off, hw, hn, i, v, h, hv => by have hw : 1000 ≤ n := hw; omega
  | .null :: l, n, off, hw, hn, i, v, h, hv => by have hw : 1000 ≤ n := hw; omega
  | .retAddr _ :: l, n, off, hw, hn, i, v, h, hv => by have hw : 1000 ≤ n := hw; omega
theorem jj_fin_st {ret : Option FieldType} {ins : Instr} {st : List Value} {rv : Option Value} (h : jj_fin ret ins st = some rv) : st = rv.toList ∧ ((ins = .ireturn ∧ ∃ x, rv = some (.int x) ∧ jj_rok ret x = true) ∨ (ins = .lreturn ∧ ∃ x, rv = some (.long x) ∧ ret = some .long) ∨ (ins = .areturn ∧ ∃ x, rv = some (.ref x) ∧ jj_aok ret = true) ∨ (ins = .return_ ∧ rv = none ∧ ret = none)) := by
  unfold jj_fin at h
  split at h
  · split at h
    · next x =>
      by_cases hr : jj_rok ret x = true
      · rw [if_pos hr] at h; cases h; exact ⟨rfl, Or.inl ⟨rfl, x, rfl, hr⟩⟩
      · rw [if_neg hr] at h; cases h
    · cases h
  · split at h
    · next x =>
      by_cases hr : ret = some .long
      · rw [if_pos hr] at h; cases h; exact ⟨rfl, Or.inr (Or.inl ⟨rfl, x, rfl, hr⟩)⟩
      · rw [if_neg hr] at h; cases h
    · cases h
  · split at h
    · next x =>
      by_cases hr : jj_aok ret = true
      · rw [if_pos hr] at h; cases h; exact ⟨rfl, Or.inr (Or.inr (Or.inl ⟨rfl, x, rfl, hr⟩))⟩
      · rw [if_neg hr] at h; cases h
    · cases h
  · split at h
    · by_cases hr : ret = none
      · rw [if_pos hr] at h; cases h; exact ⟨rfl, Or.inr (Or.inr (Or.inr ⟨rfl, rfl, hr⟩))⟩
      · rw [if_neg hr] at h; cases h
    · cases h
  · cases h
theorem jj_met {l : Launch} {D : va_G} {ad : Nat → Nat} {cA : Nat → ClassId} {b : Nat} {sc : Nat × (Nat → Int32)} {d : Nat} {M : jj_M} {vs : List Value} {h : jj_Hp} {rv : Option Value} {h' : jj_Hp} (hok : jj_okM M) (hwd : jj_wd vs ≤ M.2.1) (hs : jj_Snd l D ad cA b sc d M 0 (jj_ent vs M.2.1) [] h rv h') (sz : Nat) :
    Met l M.1.1 (jj_ws M) (jj_rm d) (jj_Pc D ad cA b sc vs h sz) (jj_Q D ad cA rv h' (jj_A ad sz)) 0 0 (jj_A ad sz) := by
  obtain ⟨ok1, ok2, ok3, ok4, ok5, ok6, ok7, ok8⟩ := hok
  refine jj_ofW (cc := M.1.2) (maxL := M.2.1) (ret := M.2.2.1) ok1 rfl ?_
  intro p e s m args below meth c s₁ B hml hv
  obtain ⟨rfl, hsz, hP, hK, hKa, hX, hbl⟩ := hv
  have hx := B.exec
  have hb := B.bytes
  have hr := B.returns
  have hts := atoms_spec (ws := jj_ws M) B.pre
  have hown : s.vm.findClass M.1.1.cls = some m.cls := findClass_of_methodNamed B.named
  have hlocks := B.notSynchronized
  subst hsz
  obtain ⟨el, ew⟩ := jj_ent_len vs M.2.1 hwd (by omega)
  have hl := lv_entry (vs.map (jj_tr ad)) (n := M.2.1) (by rw [ew ad]; exact hwd)
  rw [lg_entry_eq]
  generalize (lg_sl (vs.map (jj_tr ad)) ++ List.replicate (M.2.1 - (lg_sl (vs.map (jj_tr ad))).length) Slot.unset).toArray = ls at hl ⊢
  have hL : jj_L ad ls M.2.1 (jj_ent vs M.2.1) := ⟨⟨hl.1, hl.2.1, fun q hq => by cases hq⟩, el, fun i v hi hv => by
    have := jj_ent_in ad vs M.2.1 0 hwd (by omega) i v hi hv
    rw [Nat.zero_add] at this
    exact hl.2.2 _ this⟩
  refine hs p e _ s m _ below meth c ⟨hx, hb, hr, hlocks, hml, by rw [ok3]; exact hown, fun w hw => hts w (List.mem_cons_of_mem _ hw), hK, hKa, hX, hbl, Nat.le_refl d, Nat.le_refl (60 * d)⟩ s.heap [] 0 0 _ ls hP va_S.rf hL (Nat.zero_le _) (Nat.zero_le _) ?_
  intro H1 locs1 pc1 ls1 hP1 hS1 he
  obtain ⟨ins, st, hd, hf⟩ := he
  obtain ⟨e1, hc⟩ := jj_fin_st hf
  rcases hc with ⟨rfl, x, rfl, hrok⟩ | ⟨rfl, x, rfl, hrok⟩ | ⟨rfl, x, rfl, hrok⟩ | ⟨rfl, rfl, hrok⟩
  · obtain ⟨ty, hty, hn⟩ : ∃ ty, M.2.2.1 = some ty ∧ narrow ty (.int x) = .int x := by
      unfold jj_rok at hrok
      split at hrok
      · next q => exact ⟨.int, by assumption, rfl⟩
      · next q => exact ⟨.boolean, by assumption, by rcases jj_b01_or hrok with rfl | rfl <;> rfl⟩
      · cases hrok
    exact W.zret hx hb (hr.trans hty) hn (fun t ht hW => ⟨rfl, by rw [ht]; exact hP1, hS1.F ht⟩) hS1.2.2 hd
  · exact W.lret hx hb (hr.trans hrok) (fun t ht hW => ⟨rfl, by rw [ht]; exact hP1, hS1.F ht⟩) hS1.2.2 hd
  · obtain ⟨ty, hty, hn⟩ : ∃ ty, M.2.2.1 = some ty ∧ ((∃ n, ty = .object n) ∨ ∃ t, ty = .array t) := by
      unfold jj_aok at hrok
      split at hrok
      · next q => exact ⟨_, by assumption, Or.inl ⟨_, rfl⟩⟩
      · next q => exact ⟨_, by assumption, Or.inr ⟨_, rfl⟩⟩
      · cases hrok
    exact W.aret hx hb (hr.trans hty) hn (Or.inr ⟨_, rfl⟩) (fun t ht hW => ⟨rfl, by rw [ht]; exact hP1, hS1.F ht⟩) hS1.2.2 hd
  · exact W.vret hx hb (hr.trans hrok) (fun t ht hW => ⟨rfl, by rw [ht]; exact hP1, hS1.F ht⟩) hS1.2.2 hd
theorem jj_good {M M' : jj_M} (hok : jj_okM M') : GoodIn (jj_ws M) (jj_ws M') := by
  intro w hw
  have hm : w ∈ jj_wl := (List.mem_cons.mp hw).elim (fun q => by rw [q]; exact hok.2.1) id
  exact ⟨List.mem_cons_of_mem _ hm, good_of_word (jj_wl_good w hm)⟩
theorem jj_goodW {M' : jj_M} (hok : jj_okM M') : GoodIn jj_wl (jj_ws M') := by
  intro w hw
  have hm : w ∈ jj_wl := (List.mem_cons.mp hw).elim (fun q => by rw [q]; exact hok.2.1) id
  exact ⟨hm, good_of_word (jj_wl_good w hm)⟩
theorem jj_blind {D : va_G} {ad : Nat → Nat} {cA : Nat → ClassId} {b : Nat} {sc : Nat × (Nat → Int32)} {vs : List Value} {h : jj_Hp} {sz : Nat} : FrameBlind (jj_Pc D ad cA b sc vs h sz) := by
  intro a U g mk q
  obtain ⟨q0, q1, q2, q3, q4, q5, q6⟩ := q
  exact ⟨q0, q1, q2, va_K.moved (u := U) (U := U.calling g mk a) (Vm.Alike.refl U.vm) q3, fun a' t n hn => va_K.moved (u := U) (U := U.calling g mk a) (Vm.Alike.refl U.vm) (q4 a' t n hn), va_X.moved (u := U) (U := U.calling g mk a) (Vm.Alike.refl U.vm) q5, q6⟩
theorem jj_exec_sc : ∀ (n d : Nat) (M : jj_M) (pc : Nat) (lc st : List Value) (h : jj_Hp) (rv : Option Value) (h' : jj_Hp), jj_exec n d M pc lc st h = some (rv, h') → h'.2.2 = h.2.2
  | 0, d, M, pc, lc, st, h, rv, h', hx => by cases hx
  | n + 1, d, M, pc, lc, st, h, rv, h', hx => by
    unfold jj_exec at hx
    split at hx
    · next ins len hd =>
      split at hx
      · next hlen =>
        split at hx
        · cases hx; rfl
        · split at hx
          · next q hq =>
            split at hx
            · cases d with
              | zero => cases hx
              | succ d' =>
                dsimp only at hx
                split at hx
                · next r h1 hc =>
                  exact (jj_exec_sc n _ _ _ _ _ _ _ _ hx).trans (jj_exec_sc n _ _ _ _ _ _ _ _ hc)
                · cases hx
            · cases hx
          · split at hx
            · next P hP =>
              exact (jj_exec_sc n _ _ _ _ _ _ _ _ hx).trans (jj_step hd hlen hP).1
            · cases hx
      · cases hx
    · cases hx
end
section
/-! a call, from our function's -/
theorem jj_callOne {l : Launch} {D : va_G} {ad : Nat → Nat} {cA : Nat → ClassId} {b : Nat} {sc : Nat × (Nat → Int32)} {d : Nat} {M : jj_M} {ins : Instr} {pc : Nat} {st : List Value} {q : jj_M × List Value × List Value} {h : jj_Hp} {r : Option Value} {h1 : jj_Hp}
    (hAd : jj_Ad ad b) (hd : decode M.1.2 pc = .ok (ins, 3)) (hq : jj_cal M.2.2.2.1 ins st = some q) (hc : jj_cok q = true) (hS1 : jj_okM q.1 → jj_Snd l D ad cA b sc d q.1 0 (jj_ent q.2.1 q.1.2.1) [] h r h1)
    {p : Program} {e : Env} {R : Room} {s : State} {m : MethodId} {args : Array Value} {below : List Frame} {meth : Method} {c : Code} (Cx : jj_Cx D cA b sc p R s m args meth c M (d + 1))
    {H : Heap} {locs : List Loc} {cells slots : Nat} {Q : State → Prop} {ls : Array Slot} (hP : va_P D vwCl (jj_w ad cA h) H) (hS : va_S (jj_A ad s.heap.size) s.heap H locs) (hls : ls.size = M.2.1) (hcl : cells ≤ R.cells) (hsl : slots ≤ R.slots)
    (k : ∀ (H1 : Heap) (locs1 : List Loc), va_P D vwCl (jj_w ad cA h1) H1 → va_S (jj_A ad s.heap.size) s.heap H1 locs1 → W p l e R s m args below meth c H1 locs1 cells slots Q (F0 m (pc + 3) ls ((r.map (jj_tr ad)).toList ++ q.2.2.map (jj_tr ad)))) :
    W p l e R s m args below meth c H locs cells slots Q (F0 m pc ls (st.map (jj_tr ad))) := by
  obtain ⟨hx, hb, hr, hlk, hml, hown, hts, hK, hKa, hX, hbl, hfr, hlo⟩ := Cx
  have hX1 : va_X b sc.1 sc.2 s H := hX.kept (hS.2.1 b hbl (jj_nb hAd hbl))
  have hb1 : b < H.size := Nat.lt_of_lt_of_le hbl hS.1
  have hA1 : ∀ z, jj_A ad H.size z → jj_A ad s.heap.size z := fun z hz => hz.elim Or.inl (fun y => Or.inr (Nat.le_trans hS.1 y))
  unfold jj_cok at hc
  simp only [Bool.and_eq_true, decide_eq_true_eq] at hc
  have hcat : (q.2.2.map (jj_tr ad)).map (fun v => v.category) = q.2.2.map (fun v => v.category) := by
    rw [List.map_map]
    exact List.map_congr_left (fun v _ => jj_tr_cat ad v)
  have hroom : ((q.2.2.map (jj_tr ad)).map fun v => v.category).sum ≤ 8 := by rw [hcat]; exact hc.2
  unfold jj_cal at hq
  split at hq
  · next i =>
    obtain ⟨M', hM, h2⟩ := jj_bmap (γ := Nat) hq
    obtain ⟨hok, w1, w2, w3⟩ := jj_mv_ok _ (i, M') (jj_look hM)
    split at h2
    · next a rr hdr =>
      by_cases hi : jj_sh[a]? = some (.inl M'.2.2.2.1) ∧ (st.take M'.2.2.2.2).length = M'.2.2.2.2
      rotate_left
      · rw [if_neg hi] at h2; cases h2
      rw [if_pos hi] at h2
      cases h2
      dsimp only at hc hroom hS1 k
      have hMet := jj_met (vs := .ref a :: (st.take M'.2.2.2.2).reverse) hok hc.1 (hS1 hok) H.size
      obtain ⟨ha, hc1, hc2, hc3, hc4, hc5⟩ := jj_clsL hi.1
      have hst : st = st.take M'.2.2.2.2 ++ .ref a :: rr := by rw [← hdr, List.take_append_drop]
      have hstk : st.map (jj_tr ad) = (((st.take M'.2.2.2.2).reverse).map (jj_tr ad)).reverse ++ .ref (ad a) :: rr.map (jj_tr ad) := by
        rw [← List.map_reverse, List.reverse_reverse]
        exact (congrArg (List.map (jj_tr ad)) hst).trans (List.map_append)
      have ok3 := hok.2.2.1
      refine jj_call (D := D) (ad := ad) (cA := cA) (rv := r) (h' := h1) (va_runV (As := ((st.take M'.2.2.2.2).reverse).map (jj_tr ad)) (b := ad a) (rest := rr.map (jj_tr ad)) (C := M'.1.1.cls) (n := M'.2.2.2.2) (Ts := jj_wl) ⟨hx, hb, hml, hown, hts⟩ hMet
        ⟨callB_of (ws' := jj_wl) M'.2.2.2.2 hts (jj_goodW hok) rfl rfl rfl (hts _ hok.2.2.2.1) (hts _ w1) ⟨hok.2.2.2.2.1, hok.2.2.2.2.2.1, hok.2.2.2.2.2.2.1⟩ ⟨hfr, by have hz : M'.2.1 < 30 := hok.2.2.2.2.2.2.2; show 8 + (M'.2.1 + 11) + 60 * d ≤ R.locals; omega⟩, hts _ w2, hts _ w3⟩
        ⟨jj_blind, ?_, ?_⟩ rfl (by rw [List.length_map, List.length_reverse]; exact hi.2) hls hstk (lv_room hroom) hd ⟨hcl, hsl⟩) hS (fun z _ hz => hA1 z hz) hA1 k
      · have := va_recv hK hP (ci := M'.2.2.2.1) (q0 := a) hc1 (by rw [jj_w_get ha, jj_ce_ob hi.1])
        rw [← ok3]
        exact this
      · intro U hU hW
        refine ⟨rfl, by rw [hU], by rw [hU]; exact hP, va_K.moved hW.alike hK, fun a' t n hn => va_K.moved hW.alike (hKa a' t n hn), ?_, by rw [hU]; exact hb1⟩
        have := va_X.moved (U := U) hW.alike hX1
        rw [hU]; exact this
    · cases h2
  · next i =>
    obtain ⟨M', hM, h2⟩ := jj_bmap (γ := Nat) hq
    obtain ⟨hok, w1, w2⟩ := jj_ms_ok _ (i, M') (jj_look hM)
    by_cases hi : (st.take M'.2.2.2.2).length = M'.2.2.2.2
    rotate_left
    · rw [if_neg hi] at h2; cases h2
    rw [if_pos hi] at h2
    cases h2
    dsimp only at hc hroom hS1 k
    have hMet := jj_met (vs := (st.take M'.2.2.2.2).reverse) hok hc.1 (hS1 hok) H.size
    have hst : st = st.take M'.2.2.2.2 ++ st.drop M'.2.2.2.2 := by rw [List.take_append_drop]
    have hstk : st.map (jj_tr ad) = (((st.take M'.2.2.2.2).reverse).map (jj_tr ad)).reverse ++ (st.drop M'.2.2.2.2).map (jj_tr ad) := by
      rw [← List.map_reverse, List.reverse_reverse]
      exact (congrArg (List.map (jj_tr ad)) hst).trans (List.map_append)
    refine jj_call (D := D) (ad := ad) (cA := cA) (rv := r) (h' := h1) (va_runS (As := ((st.take M'.2.2.2.2).reverse).map (jj_tr ad)) (rest := (st.drop M'.2.2.2.2).map (jj_tr ad)) (n := M'.2.2.2.2) (Ts := jj_wl) ⟨hx, hb, hml, hown, hts⟩ hMet
      ⟨callB_of (ws' := jj_wl) M'.2.2.2.2 hts (jj_goodW hok) rfl rfl rfl (hts _ hok.2.2.2.1) (hts _ w1) ⟨hok.2.2.2.2.1, hok.2.2.2.2.2.1, hok.2.2.2.2.2.2.1⟩ ⟨hfr, by have hz : M'.2.1 < 30 := hok.2.2.2.2.2.2.2; show 8 + (M'.2.1 + 11) + 60 * d ≤ R.locals; omega⟩, hts _ w2⟩
      ⟨jj_blind, ?_⟩ rfl (by rw [List.length_map, List.length_reverse]; exact hi) hls hstk (lv_room hroom) hd ⟨hcl, hsl⟩) hS (fun z _ hz => hA1 z hz) hA1 k
    intro U hU hW
    refine ⟨rfl, by rw [hU], by rw [hU]; exact hP, va_K.moved hW.alike hK, fun a' t n hn => va_K.moved hW.alike (hKa a' t n hn), ?_, by rw [hU]; exact hb1⟩
    have := va_X.moved (U := U) hW.alike hX1
    rw [hU]; exact this
  · cases hq
theorem jj_cal_len {c : Nat} {ins : Instr} {st : List Value} {q : jj_M × List Value × List Value} {len : Nat} (h : jj_cal c ins st = some q) (hl : jj_len ins len = len) : len = 3 := by
  unfold jj_cal at h
  split at h
  · exact hl.symm
  · exact hl.symm
  · cases h
theorem jj_fin_len {c : Option FieldType} {ins : Instr} {st : List Value} {q : Option Value} {len : Nat} (h : jj_fin c ins st = some q) (hl : jj_len ins len = len) : len = 1 := by
  unfold jj_fin at h
  split at h
  · exact hl.symm
  · exact hl.symm
  · exact hl.symm
  · exact hl.symm
  · cases h
/-- OUR FUNCTION'S RUN IS THE MACHINE'S -/
theorem jj_sound {l : Launch} {D : va_G} {ad : Nat → Nat} {cA : Nat → ClassId} {b : Nat} {sc : Nat × (Nat → Int32)} (hAd : jj_Ad ad b) : ∀ (n d : Nat) (M : jj_M) (pc : Nat) (lc st : List Value) (h : jj_Hp) (rv : Option Value) (h' : jj_Hp), jj_exec n d M pc lc st h = some (rv, h') → h.2.2 = sc → jj_Snd l D ad cA b sc d M pc lc st h rv h'
  | 0, d, M, pc, lc, st, h, rv, h', hx, hsc => by cases hx
  | n + 1, d, M, pc, lc, st, h, rv, h', hx, hsc => by
    intro p e R s m args below meth c Cx H locs cells slots Q ls hP hS hl hcl hsl hfin
    unfold jj_exec at hx
    split at hx
    · next ins len hd =>
      split at hx
      · next hlen =>
        split at hx
        · next r hf =>
          cases hx
          have e1 := (jj_fin_st hf).1
          have e2 := jj_fin_len hf hlen
          subst e2
          have := hfin H locs pc ls hP hS ⟨ins, st, hd, hf⟩
          rw [← e1] at this
          exact this
        · split at hx
          · next q hq =>
            split at hx
            · next hc =>
              cases d with
              | zero => cases hx
              | succ d' =>
                dsimp only at hx
                split at hx
                · next r h1 hcall =>
                  have e2 := jj_cal_len hq hlen
                  subst e2
                  refine jj_callOne hAd hd hq hc (fun _ => jj_sound hAd n d' q.1 0 _ [] h r h1 hcall hsc) Cx hP hS hl.1.1 hcl hsl (fun H1 locs1 hP1 hS1 => ?_)
                  have hsc1 : h1.2.2 = sc := (jj_exec_sc n _ _ _ _ _ _ _ _ hcall).trans hsc
                  have := jj_sound hAd n (d' + 1) M (pc + 3) lc (r.toList ++ q.2.2) h1 rv h' hx hsc1 p e R s m args below meth c Cx H1 locs1 cells slots Q ls hP1 hS1 hl hcl hsl hfin
                  have e3 : (r.toList ++ q.2.2).map (jj_tr ad) = (r.map (jj_tr ad)).toList ++ q.2.2.map (jj_tr ad) := by
                    rw [List.map_append]
                    cases r <;> rfl
                  rw [← e3]
                  exact this
                · cases hx
            · cases hx
          · split at hx
            · next P hPp =>
              obtain ⟨g1, g2⟩ := jj_step hd hlen hPp
              exact g2 hAd Cx hsc hP hS hl (fun H1 locs1 ls1 hP1 hS1 hl1 => jj_sound hAd n d M P.1 P.2.1 P.2.2.1 P.2.2.2 rv h' hx (g1.trans hsc) p e R s m args below meth c Cx H1 locs1 cells slots Q ls1 hP1 hS1 hl1 hcl hsl hfin)
            · cases hx
      · cases hx
    · cases hx
end
section
theorem dX0_init_0 : decode cX0_init 0 = .ok (.aload_n 0, 1) := by decide +kernel
theorem dX0_init_1 : decode cX0_init 1 = .ok (.invokespecial 3, 3) := by decide +kernel
theorem dX0_init_4 : decode cX0_init 4 = .ok (.aload_n 0, 1) := by decide +kernel
theorem dX0_init_5 : decode cX0_init 5 = .ok (.iconst 4, 1) := by decide +kernel
theorem dX0_init_6 : decode cX0_init 6 = .ok (.newarray .int, 2) := by decide +kernel
theorem dX0_init_8 : decode cX0_init 8 = .ok (.putfield 9, 3) := by decide +kernel
theorem dX0_init_11 : decode cX0_init 11 = .ok (.aload_n 0, 1) := by decide +kernel
theorem dX0_init_12 : decode cX0_init 12 = .ok (.iconst 4, 1) := by decide +kernel
theorem dX0_init_13 : decode cX0_init 13 = .ok (.newarray .int, 2) := by decide +kernel
theorem dX0_init_15 : decode cX0_init 15 = .ok (.putfield 15, 3) := by decide +kernel
theorem dX0_init_18 : decode cX0_init 18 = .ok (.aload_n 0, 1) := by decide +kernel
theorem dX0_init_19 : decode cX0_init 19 = .ok (.bipush 6, 2) := by decide +kernel
theorem dX0_init_21 : decode cX0_init 21 = .ok (.newarray .int, 2) := by decide +kernel
theorem dX0_init_23 : decode cX0_init 23 = .ok (.putfield 18, 3) := by decide +kernel
theorem dX0_init_26 : decode cX0_init 26 = .ok (.aload_n 0, 1) := by decide +kernel
theorem dX0_init_27 : decode cX0_init 27 = .ok (.bipush 6, 2) := by decide +kernel
theorem dX0_init_29 : decode cX0_init 29 = .ok (.newarray .int, 2) := by decide +kernel
theorem dX0_init_31 : decode cX0_init 31 = .ok (.putfield 21, 3) := by decide +kernel
theorem dX0_init_34 : decode cX0_init 34 = .ok (.aload_n 0, 1) := by decide +kernel
theorem dX0_init_35 : decode cX0_init 35 = .ok (.bipush 6, 2) := by decide +kernel
theorem dX0_init_37 : decode cX0_init 37 = .ok (.newarray .int, 2) := by decide +kernel
theorem dX0_init_39 : decode cX0_init 39 = .ok (.putfield 24, 3) := by decide +kernel
theorem dX0_init_42 : decode cX0_init 42 = .ok (.aload_n 0, 1) := by decide +kernel
theorem dX0_init_43 : decode cX0_init 43 = .ok (.bipush 6, 2) := by decide +kernel
theorem dX0_init_45 : decode cX0_init 45 = .ok (.newarray .int, 2) := by decide +kernel
theorem dX0_init_47 : decode cX0_init 47 = .ok (.putfield 27, 3) := by decide +kernel
theorem dX0_init_50 : decode cX0_init 50 = .ok (.aload_n 0, 1) := by decide +kernel
theorem dX0_init_51 : decode cX0_init 51 = .ok (.bipush 6, 2) := by decide +kernel
theorem dX0_init_53 : decode cX0_init 53 = .ok (.newarray .boolean, 2) := by decide +kernel
theorem dX0_init_55 : decode cX0_init 55 = .ok (.putfield 30, 3) := by decide +kernel
theorem dX0_init_58 : decode cX0_init 58 = .ok (.aload_n 0, 1) := by decide +kernel
theorem dX0_init_59 : decode cX0_init 59 = .ok (.bipush 24, 2) := by decide +kernel
theorem dX0_init_61 : decode cX0_init 61 = .ok (.newarray .int, 2) := by decide +kernel
theorem dX0_init_63 : decode cX0_init 63 = .ok (.putfield 34, 3) := by decide +kernel
theorem dX0_init_66 : decode cX0_init 66 = .ok (.return_, 1) := by decide +kernel
theorem dX0_addThing_0 : decode cX0_addThing 0 = .ok (.aload_n 0, 1) := by decide +kernel
theorem dX0_addThing_1 : decode cX0_addThing 1 = .ok (.getfield 37, 3) := by decide +kernel
theorem dX0_addThing_4 : decode cX0_addThing 4 = .ok (.istore_n 3, 1) := by decide +kernel
theorem dX0_addThing_5 : decode cX0_addThing 5 = .ok (.aload_n 0, 1) := by decide +kernel
theorem dX0_addThing_6 : decode cX0_addThing 6 = .ok (.getfield 9, 3) := by decide +kernel
theorem dX0_addThing_9 : decode cX0_addThing 9 = .ok (.iload_n 3, 1) := by decide +kernel
theorem dX0_addThing_10 : decode cX0_addThing 10 = .ok (.iload_n 1, 1) := by decide +kernel
theorem dX0_addThing_11 : decode cX0_addThing 11 = .ok (.iastore, 1) := by decide +kernel
theorem dX0_addThing_12 : decode cX0_addThing 12 = .ok (.aload_n 0, 1) := by decide +kernel
theorem dX0_addThing_13 : decode cX0_addThing 13 = .ok (.getfield 15, 3) := by decide +kernel
theorem dX0_addThing_16 : decode cX0_addThing 16 = .ok (.iload_n 3, 1) := by decide +kernel
theorem dX0_addThing_17 : decode cX0_addThing 17 = .ok (.iload_n 2, 1) := by decide +kernel
theorem dX0_addThing_18 : decode cX0_addThing 18 = .ok (.iastore, 1) := by decide +kernel
theorem dX0_addThing_19 : decode cX0_addThing 19 = .ok (.aload_n 0, 1) := by decide +kernel
theorem dX0_addThing_20 : decode cX0_addThing 20 = .ok (.dup, 1) := by decide +kernel
theorem dX0_addThing_21 : decode cX0_addThing 21 = .ok (.getfield 37, 3) := by decide +kernel
theorem dX0_addThing_24 : decode cX0_addThing 24 = .ok (.iconst 1, 1) := by decide +kernel
theorem dX0_addThing_25 : decode cX0_addThing 25 = .ok (.iadd, 1) := by decide +kernel
theorem dX0_addThing_26 : decode cX0_addThing 26 = .ok (.putfield 37, 3) := by decide +kernel
theorem dX0_addThing_29 : decode cX0_addThing 29 = .ok (.iload_n 3, 1) := by decide +kernel
theorem dX0_addThing_30 : decode cX0_addThing 30 = .ok (.ireturn, 1) := by decide +kernel
theorem dX0_addRule_0 : decode cX0_addRule 0 = .ok (.aload_n 0, 1) := by decide +kernel
theorem dX0_addRule_1 : decode cX0_addRule 1 = .ok (.getfield 41, 3) := by decide +kernel
theorem dX0_addRule_4 : decode cX0_addRule 4 = .ok (.istore_n 3, 1) := by decide +kernel
theorem dX0_addRule_5 : decode cX0_addRule 5 = .ok (.aload_n 0, 1) := by decide +kernel
theorem dX0_addRule_6 : decode cX0_addRule 6 = .ok (.getfield 18, 3) := by decide +kernel
theorem dX0_addRule_9 : decode cX0_addRule 9 = .ok (.iload_n 3, 1) := by decide +kernel
theorem dX0_addRule_10 : decode cX0_addRule 10 = .ok (.iload_n 1, 1) := by decide +kernel
theorem dX0_addRule_11 : decode cX0_addRule 11 = .ok (.iastore, 1) := by decide +kernel
theorem dX0_addRule_12 : decode cX0_addRule 12 = .ok (.aload_n 0, 1) := by decide +kernel
theorem dX0_addRule_13 : decode cX0_addRule 13 = .ok (.getfield 27, 3) := by decide +kernel
theorem dX0_addRule_16 : decode cX0_addRule 16 = .ok (.iload_n 3, 1) := by decide +kernel
theorem dX0_addRule_17 : decode cX0_addRule 17 = .ok (.iload_n 2, 1) := by decide +kernel
theorem dX0_addRule_18 : decode cX0_addRule 18 = .ok (.iastore, 1) := by decide +kernel
theorem dX0_addRule_19 : decode cX0_addRule 19 = .ok (.aload_n 0, 1) := by decide +kernel
theorem dX0_addRule_20 : decode cX0_addRule 20 = .ok (.getfield 30, 3) := by decide +kernel
theorem dX0_addRule_23 : decode cX0_addRule 23 = .ok (.iload_n 3, 1) := by decide +kernel
theorem dX0_addRule_24 : decode cX0_addRule 24 = .ok (.iconst 1, 1) := by decide +kernel
theorem dX0_addRule_25 : decode cX0_addRule 25 = .ok (.bastore, 1) := by decide +kernel
theorem dX0_addRule_26 : decode cX0_addRule 26 = .ok (.aload_n 0, 1) := by decide +kernel
theorem dX0_addRule_27 : decode cX0_addRule 27 = .ok (.dup, 1) := by decide +kernel
theorem dX0_addRule_28 : decode cX0_addRule 28 = .ok (.getfield 41, 3) := by decide +kernel
theorem dX0_addRule_31 : decode cX0_addRule 31 = .ok (.iconst 1, 1) := by decide +kernel
theorem dX0_addRule_32 : decode cX0_addRule 32 = .ok (.iadd, 1) := by decide +kernel
theorem dX0_addRule_33 : decode cX0_addRule 33 = .ok (.putfield 41, 3) := by decide +kernel
theorem dX0_addRule_36 : decode cX0_addRule 36 = .ok (.iload_n 3, 1) := by decide +kernel
theorem dX0_addRule_37 : decode cX0_addRule 37 = .ok (.ireturn, 1) := by decide +kernel
theorem dX0_pair_0 : decode cX0_pair 0 = .ok (.aload_n 0, 1) := by decide +kernel
theorem dX0_pair_1 : decode cX0_pair 1 = .ok (.getfield 21, 3) := by decide +kernel
theorem dX0_pair_4 : decode cX0_pair 4 = .ok (.iload_n 1, 1) := by decide +kernel
theorem dX0_pair_5 : decode cX0_pair 5 = .ok (.iload_n 2, 1) := by decide +kernel
theorem dX0_pair_6 : decode cX0_pair 6 = .ok (.iastore, 1) := by decide +kernel
theorem dX0_pair_7 : decode cX0_pair 7 = .ok (.aload_n 0, 1) := by decide +kernel
theorem dX0_pair_8 : decode cX0_pair 8 = .ok (.getfield 24, 3) := by decide +kernel
theorem dX0_pair_11 : decode cX0_pair 11 = .ok (.iload_n 1, 1) := by decide +kernel
theorem dX0_pair_12 : decode cX0_pair 12 = .ok (.iload_n 3, 1) := by decide +kernel
theorem dX0_pair_13 : decode cX0_pair 13 = .ok (.iastore, 1) := by decide +kernel
theorem dX0_pair_14 : decode cX0_pair 14 = .ok (.aload_n 0, 1) := by decide +kernel
theorem dX0_pair_15 : decode cX0_pair 15 = .ok (.getfield 18, 3) := by decide +kernel
theorem dX0_pair_18 : decode cX0_pair 18 = .ok (.iload_n 1, 1) := by decide +kernel
theorem dX0_pair_19 : decode cX0_pair 19 = .ok (.iaload, 1) := by decide +kernel
theorem dX0_pair_20 : decode cX0_pair 20 = .ok (.iconst 1, 1) := by decide +kernel
theorem dX0_pair_21 : decode cX0_pair 21 = .ok (.if_icmp .ne 31, 3) := by decide +kernel
theorem dX0_pair_24 : decode cX0_pair 24 = .ok (.aload_n 0, 1) := by decide +kernel
theorem dX0_pair_25 : decode cX0_pair 25 = .ok (.getfield 34, 3) := by decide +kernel
theorem dX0_pair_28 : decode cX0_pair 28 = .ok (.iload_n 1, 1) := by decide +kernel
theorem dX0_pair_29 : decode cX0_pair 29 = .ok (.iconst 4, 1) := by decide +kernel
theorem dX0_pair_30 : decode cX0_pair 30 = .ok (.imul, 1) := by decide +kernel
theorem dX0_pair_31 : decode cX0_pair 31 = .ok (.iload_n 2, 1) := by decide +kernel
theorem dX0_pair_32 : decode cX0_pair 32 = .ok (.iadd, 1) := by decide +kernel
theorem dX0_pair_33 : decode cX0_pair 33 = .ok (.dup2, 1) := by decide +kernel
theorem dX0_pair_34 : decode cX0_pair 34 = .ok (.iaload, 1) := by decide +kernel
theorem dX0_pair_35 : decode cX0_pair 35 = .ok (.iconst 1, 1) := by decide +kernel
theorem dX0_pair_36 : decode cX0_pair 36 = .ok (.iadd, 1) := by decide +kernel
theorem dX0_pair_37 : decode cX0_pair 37 = .ok (.iastore, 1) := by decide +kernel
theorem dX0_pair_38 : decode cX0_pair 38 = .ok (.aload_n 0, 1) := by decide +kernel
theorem dX0_pair_39 : decode cX0_pair 39 = .ok (.getfield 34, 3) := by decide +kernel
theorem dX0_pair_42 : decode cX0_pair 42 = .ok (.iload_n 1, 1) := by decide +kernel
theorem dX0_pair_43 : decode cX0_pair 43 = .ok (.iconst 4, 1) := by decide +kernel
theorem dX0_pair_44 : decode cX0_pair 44 = .ok (.imul, 1) := by decide +kernel
theorem dX0_pair_45 : decode cX0_pair 45 = .ok (.iload_n 3, 1) := by decide +kernel
theorem dX0_pair_46 : decode cX0_pair 46 = .ok (.iadd, 1) := by decide +kernel
theorem dX0_pair_47 : decode cX0_pair 47 = .ok (.dup2, 1) := by decide +kernel
theorem dX0_pair_48 : decode cX0_pair 48 = .ok (.iaload, 1) := by decide +kernel
theorem dX0_pair_49 : decode cX0_pair 49 = .ok (.iconst 1, 1) := by decide +kernel
theorem dX0_pair_50 : decode cX0_pair 50 = .ok (.isub, 1) := by decide +kernel
theorem dX0_pair_51 : decode cX0_pair 51 = .ok (.iastore, 1) := by decide +kernel
theorem dX0_pair_52 : decode cX0_pair 52 = .ok (.return_, 1) := by decide +kernel
theorem dX0_rulesOn_0 : decode cX0_rulesOn 0 = .ok (.iconst 0, 1) := by decide +kernel
theorem dX0_rulesOn_1 : decode cX0_rulesOn 1 = .ok (.istore_n 1, 1) := by decide +kernel
theorem dX0_rulesOn_2 : decode cX0_rulesOn 2 = .ok (.iconst 0, 1) := by decide +kernel
theorem dX0_rulesOn_3 : decode cX0_rulesOn 3 = .ok (.istore_n 2, 1) := by decide +kernel
theorem dX0_rulesOn_4 : decode cX0_rulesOn 4 = .ok (.iload_n 2, 1) := by decide +kernel
theorem dX0_rulesOn_5 : decode cX0_rulesOn 5 = .ok (.aload_n 0, 1) := by decide +kernel
theorem dX0_rulesOn_6 : decode cX0_rulesOn 6 = .ok (.getfield 41, 3) := by decide +kernel
theorem dX0_rulesOn_9 : decode cX0_rulesOn 9 = .ok (.if_icmp .ge 21, 3) := by decide +kernel
theorem dX0_rulesOn_12 : decode cX0_rulesOn 12 = .ok (.aload_n 0, 1) := by decide +kernel
theorem dX0_rulesOn_13 : decode cX0_rulesOn 13 = .ok (.getfield 30, 3) := by decide +kernel
theorem dX0_rulesOn_16 : decode cX0_rulesOn 16 = .ok (.iload_n 2, 1) := by decide +kernel
theorem dX0_rulesOn_17 : decode cX0_rulesOn 17 = .ok (.baload, 1) := by decide +kernel
theorem dX0_rulesOn_18 : decode cX0_rulesOn 18 = .ok (.ifCond .eq 6, 3) := by decide +kernel
theorem dX0_rulesOn_21 : decode cX0_rulesOn 21 = .ok (.iinc 1 1, 3) := by decide +kernel
theorem dX0_rulesOn_24 : decode cX0_rulesOn 24 = .ok (.iinc 2 1, 3) := by decide +kernel
theorem dX0_rulesOn_27 : decode cX0_rulesOn 27 = .ok (.goto (-23), 3) := by decide +kernel
theorem dX0_rulesOn_30 : decode cX0_rulesOn 30 = .ok (.iload_n 1, 1) := by decide +kernel
theorem dX0_rulesOn_31 : decode cX0_rulesOn 31 = .ok (.ireturn, 1) := by decide +kernel
theorem dX0_countsForShares_0 : decode cX0_countsForShares 0 = .ok (.aload_n 0, 1) := by decide +kernel
theorem dX0_countsForShares_1 : decode cX0_countsForShares 1 = .ok (.getfield 30, 3) := by decide +kernel
theorem dX0_countsForShares_4 : decode cX0_countsForShares 4 = .ok (.iload_n 1, 1) := by decide +kernel
theorem dX0_countsForShares_5 : decode cX0_countsForShares 5 = .ok (.baload, 1) := by decide +kernel
theorem dX0_countsForShares_6 : decode cX0_countsForShares 6 = .ok (.ifCond .eq 17, 3) := by decide +kernel
theorem dX0_countsForShares_9 : decode cX0_countsForShares 9 = .ok (.aload_n 0, 1) := by decide +kernel
theorem dX0_countsForShares_10 : decode cX0_countsForShares 10 = .ok (.getfield 18, 3) := by decide +kernel
theorem dX0_countsForShares_13 : decode cX0_countsForShares 13 = .ok (.iload_n 1, 1) := by decide +kernel
theorem dX0_countsForShares_14 : decode cX0_countsForShares 14 = .ok (.iaload, 1) := by decide +kernel
theorem dX0_countsForShares_15 : decode cX0_countsForShares 15 = .ok (.iconst 2, 1) := by decide +kernel
theorem dX0_countsForShares_16 : decode cX0_countsForShares 16 = .ok (.if_icmp .eq 7, 3) := by decide +kernel
theorem dX0_countsForShares_19 : decode cX0_countsForShares 19 = .ok (.iconst 1, 1) := by decide +kernel
theorem dX0_countsForShares_20 : decode cX0_countsForShares 20 = .ok (.goto 4, 3) := by decide +kernel
theorem dX0_countsForShares_23 : decode cX0_countsForShares 23 = .ok (.iconst 0, 1) := by decide +kernel
theorem dX0_countsForShares_24 : decode cX0_countsForShares 24 = .ok (.ireturn, 1) := by decide +kernel
theorem dX1_init_0 : decode cX1_init 0 = .ok (.aload_n 0, 1) := by decide +kernel
theorem dX1_init_1 : decode cX1_init 1 = .ok (.invokespecial 3, 3) := by decide +kernel
theorem dX1_init_4 : decode cX1_init 4 = .ok (.aload_n 0, 1) := by decide +kernel
theorem dX1_init_5 : decode cX1_init 5 = .ok (.sipush 210, 3) := by decide +kernel
theorem dX1_init_8 : decode cX1_init 8 = .ok (.newarray .long, 2) := by decide +kernel
theorem dX1_init_10 : decode cX1_init 10 = .ok (.putfield 11, 3) := by decide +kernel
theorem dX1_init_13 : decode cX1_init 13 = .ok (.aload_n 0, 1) := by decide +kernel
theorem dX1_init_14 : decode cX1_init 14 = .ok (.sipush 210, 3) := by decide +kernel
theorem dX1_init_17 : decode cX1_init 17 = .ok (.newarray .long, 2) := by decide +kernel
theorem dX1_init_19 : decode cX1_init 19 = .ok (.putfield 15, 3) := by decide +kernel
theorem dX1_init_22 : decode cX1_init 22 = .ok (.aload_n 0, 1) := by decide +kernel
theorem dX1_init_23 : decode cX1_init 23 = .ok (.sipush 1260, 3) := by decide +kernel
theorem dX1_init_26 : decode cX1_init 26 = .ok (.newarray .long, 2) := by decide +kernel
theorem dX1_init_28 : decode cX1_init 28 = .ok (.putfield 18, 3) := by decide +kernel
theorem dX1_init_31 : decode cX1_init 31 = .ok (.aload_n 0, 1) := by decide +kernel
theorem dX1_init_32 : decode cX1_init 32 = .ok (.bipush 16, 2) := by decide +kernel
theorem dX1_init_34 : decode cX1_init 34 = .ok (.newarray .long, 2) := by decide +kernel
theorem dX1_init_36 : decode cX1_init 36 = .ok (.putfield 21, 3) := by decide +kernel
theorem dX1_init_39 : decode cX1_init 39 = .ok (.aload_n 0, 1) := by decide +kernel
theorem dX1_init_40 : decode cX1_init 40 = .ok (.iconst 4, 1) := by decide +kernel
theorem dX1_init_41 : decode cX1_init 41 = .ok (.newarray .long, 2) := by decide +kernel
theorem dX1_init_43 : decode cX1_init 43 = .ok (.putfield 24, 3) := by decide +kernel
theorem dX1_init_46 : decode cX1_init 46 = .ok (.return_, 1) := by decide +kernel
theorem dX1_find_0 : decode cX1_find 0 = .ok (.aload_n 0, 1) := by decide +kernel
theorem dX1_find_1 : decode cX1_find 1 = .ok (.iconst 0, 1) := by decide +kernel
theorem dX1_find_2 : decode cX1_find 2 = .ok (.putfield 27, 3) := by decide +kernel
theorem dX1_find_5 : decode cX1_find 5 = .ok (.iconst 0, 1) := by decide +kernel
theorem dX1_find_6 : decode cX1_find 6 = .ok (.istore_n 2, 1) := by decide +kernel
theorem dX1_find_7 : decode cX1_find 7 = .ok (.iload_n 2, 1) := by decide +kernel
theorem dX1_find_8 : decode cX1_find 8 = .ok (.iconst 1, 1) := by decide +kernel
theorem dX1_find_9 : decode cX1_find 9 = .ok (.aload_n 1, 1) := by decide +kernel
theorem dX1_find_10 : decode cX1_find 10 = .ok (.getfield 31, 3) := by decide +kernel
theorem dX1_find_13 : decode cX1_find 13 = .ok (.ishl, 1) := by decide +kernel
theorem dX1_find_14 : decode cX1_find 14 = .ok (.if_icmp .ge 42, 3) := by decide +kernel
theorem dX1_find_17 : decode cX1_find 17 = .ok (.aload_n 1, 1) := by decide +kernel
theorem dX1_find_18 : decode cX1_find 18 = .ok (.iload_n 2, 1) := by decide +kernel
theorem dX1_find_19 : decode cX1_find 19 = .ok (.invokestatic 36, 3) := by decide +kernel
theorem dX1_find_22 : decode cX1_find 22 = .ok (.ifCond .eq 28, 3) := by decide +kernel
theorem dX1_find_25 : decode cX1_find 25 = .ok (.iconst 0, 1) := by decide +kernel
theorem dX1_find_26 : decode cX1_find 26 = .ok (.istore_n 3, 1) := by decide +kernel
theorem dX1_find_27 : decode cX1_find 27 = .ok (.iload_n 3, 1) := by decide +kernel
theorem dX1_find_28 : decode cX1_find 28 = .ok (.iconst 1, 1) := by decide +kernel
theorem dX1_find_29 : decode cX1_find 29 = .ok (.aload_n 1, 1) := by decide +kernel
theorem dX1_find_30 : decode cX1_find 30 = .ok (.getfield 40, 3) := by decide +kernel
theorem dX1_find_33 : decode cX1_find 33 = .ok (.ishl, 1) := by decide +kernel
theorem dX1_find_34 : decode cX1_find 34 = .ok (.if_icmp .ge 16, 3) := by decide +kernel
theorem dX1_find_37 : decode cX1_find 37 = .ok (.aload_n 0, 1) := by decide +kernel
theorem dX1_find_38 : decode cX1_find 38 = .ok (.aload_n 1, 1) := by decide +kernel
theorem dX1_find_39 : decode cX1_find 39 = .ok (.iload_n 2, 1) := by decide +kernel
theorem dX1_find_40 : decode cX1_find 40 = .ok (.iload_n 3, 1) := by decide +kernel
theorem dX1_find_41 : decode cX1_find 41 = .ok (.invokevirtual 43, 3) := by decide +kernel
theorem dX1_find_44 : decode cX1_find 44 = .ok (.iinc 3 1, 3) := by decide +kernel
theorem dX1_find_47 : decode cX1_find 47 = .ok (.goto (-20), 3) := by decide +kernel
theorem dX1_find_50 : decode cX1_find 50 = .ok (.iinc 2 1, 3) := by decide +kernel
theorem dX1_find_53 : decode cX1_find 53 = .ok (.goto (-46), 3) := by decide +kernel
theorem dX1_find_56 : decode cX1_find 56 = .ok (.return_, 1) := by decide +kernel
theorem dX1_allCount_0 : decode cX1_allCount 0 = .ok (.iconst 0, 1) := by decide +kernel
theorem dX1_allCount_1 : decode cX1_allCount 1 = .ok (.istore_n 2, 1) := by decide +kernel
theorem dX1_allCount_2 : decode cX1_allCount 2 = .ok (.iload_n 2, 1) := by decide +kernel
theorem dX1_allCount_3 : decode cX1_allCount 3 = .ok (.aload_n 0, 1) := by decide +kernel
theorem dX1_allCount_4 : decode cX1_allCount 4 = .ok (.getfield 31, 3) := by decide +kernel
theorem dX1_allCount_7 : decode cX1_allCount 7 = .ok (.if_icmp .ge 27, 3) := by decide +kernel
theorem dX1_allCount_10 : decode cX1_allCount 10 = .ok (.iload_n 1, 1) := by decide +kernel
theorem dX1_allCount_11 : decode cX1_allCount 11 = .ok (.iload_n 2, 1) := by decide +kernel
theorem dX1_allCount_12 : decode cX1_allCount 12 = .ok (.invokestatic 47, 3) := by decide +kernel
theorem dX1_allCount_15 : decode cX1_allCount 15 = .ok (.ifCond .eq 13, 3) := by decide +kernel
theorem dX1_allCount_18 : decode cX1_allCount 18 = .ok (.aload_n 0, 1) := by decide +kernel
theorem dX1_allCount_19 : decode cX1_allCount 19 = .ok (.iload_n 2, 1) := by decide +kernel
theorem dX1_allCount_20 : decode cX1_allCount 20 = .ok (.invokevirtual 51, 3) := by decide +kernel
theorem dX1_allCount_23 : decode cX1_allCount 23 = .ok (.ifCond .ne 5, 3) := by decide +kernel
theorem dX1_allCount_26 : decode cX1_allCount 26 = .ok (.iconst 0, 1) := by decide +kernel
theorem dX1_allCount_27 : decode cX1_allCount 27 = .ok (.ireturn, 1) := by decide +kernel
theorem dX1_allCount_28 : decode cX1_allCount 28 = .ok (.iinc 2 1, 3) := by decide +kernel
theorem dX1_allCount_31 : decode cX1_allCount 31 = .ok (.goto (-29), 3) := by decide +kernel
theorem dX1_allCount_34 : decode cX1_allCount 34 = .ok (.iconst 1, 1) := by decide +kernel
theorem dX1_allCount_35 : decode cX1_allCount 35 = .ok (.ireturn, 1) := by decide +kernel
theorem dX1_has_0 : decode cX1_has 0 = .ok (.iload_n 0, 1) := by decide +kernel
theorem dX1_has_1 : decode cX1_has 1 = .ok (.iload_n 1, 1) := by decide +kernel
theorem dX1_has_2 : decode cX1_has 2 = .ok (.ishr, 1) := by decide +kernel
theorem dX1_has_3 : decode cX1_has 3 = .ok (.iconst 1, 1) := by decide +kernel
theorem dX1_has_4 : decode cX1_has 4 = .ok (.iand, 1) := by decide +kernel
theorem dX1_has_5 : decode cX1_has 5 = .ok (.ifCond .eq 7, 3) := by decide +kernel
theorem dX1_has_8 : decode cX1_has 8 = .ok (.iconst 1, 1) := by decide +kernel
theorem dX1_has_9 : decode cX1_has 9 = .ok (.goto 4, 3) := by decide +kernel
theorem dX1_has_12 : decode cX1_has 12 = .ok (.iconst 0, 1) := by decide +kernel
theorem dX1_has_13 : decode cX1_has 13 = .ok (.ireturn, 1) := by decide +kernel
theorem dX1_writeEquations_0 : decode cX1_writeEquations 0 = .ok (.iconst 0, 1) := by decide +kernel
theorem dX1_writeEquations_1 : decode cX1_writeEquations 1 = .ok (.istore 4, 2) := by decide +kernel
theorem dX1_writeEquations_3 : decode cX1_writeEquations 3 = .ok (.iconst 0, 1) := by decide +kernel
theorem dX1_writeEquations_4 : decode cX1_writeEquations 4 = .ok (.istore 5, 2) := by decide +kernel
theorem dX1_writeEquations_6 : decode cX1_writeEquations 6 = .ok (.iload 5, 2) := by decide +kernel
theorem dX1_writeEquations_8 : decode cX1_writeEquations 8 = .ok (.aload_n 1, 1) := by decide +kernel
theorem dX1_writeEquations_9 : decode cX1_writeEquations 9 = .ok (.getfield 40, 3) := by decide +kernel
theorem dX1_writeEquations_12 : decode cX1_writeEquations 12 = .ok (.if_icmp .ge 94, 3) := by decide +kernel
theorem dX1_writeEquations_15 : decode cX1_writeEquations 15 = .ok (.iload_n 3, 1) := by decide +kernel
theorem dX1_writeEquations_16 : decode cX1_writeEquations 16 = .ok (.iload 5, 2) := by decide +kernel
theorem dX1_writeEquations_18 : decode cX1_writeEquations 18 = .ok (.invokestatic 47, 3) := by decide +kernel
theorem dX1_writeEquations_21 : decode cX1_writeEquations 21 = .ok (.ifCond .eq 79, 3) := by decide +kernel
theorem dX1_writeEquations_24 : decode cX1_writeEquations 24 = .ok (.aload_n 0, 1) := by decide +kernel
theorem dX1_writeEquations_25 : decode cX1_writeEquations 25 = .ok (.getfield 24, 3) := by decide +kernel
theorem dX1_writeEquations_28 : decode cX1_writeEquations 28 = .ok (.iload 4, 2) := by decide +kernel
theorem dX1_writeEquations_30 : decode cX1_writeEquations 30 = .ok (.aload_n 1, 1) := by decide +kernel
theorem dX1_writeEquations_31 : decode cX1_writeEquations 31 = .ok (.getfield 55, 3) := by decide +kernel
theorem dX1_writeEquations_34 : decode cX1_writeEquations 34 = .ok (.iload 5, 2) := by decide +kernel
theorem dX1_writeEquations_36 : decode cX1_writeEquations 36 = .ok (.iaload, 1) := by decide +kernel
theorem dX1_writeEquations_37 : decode cX1_writeEquations 37 = .ok (.i2l, 1) := by decide +kernel
theorem dX1_writeEquations_38 : decode cX1_writeEquations 38 = .ok (.lastore, 1) := by decide +kernel
theorem dX1_writeEquations_39 : decode cX1_writeEquations 39 = .ok (.iconst 0, 1) := by decide +kernel
theorem dX1_writeEquations_40 : decode cX1_writeEquations 40 = .ok (.istore 6, 2) := by decide +kernel
theorem dX1_writeEquations_42 : decode cX1_writeEquations 42 = .ok (.iconst 0, 1) := by decide +kernel
theorem dX1_writeEquations_43 : decode cX1_writeEquations 43 = .ok (.istore 7, 2) := by decide +kernel
theorem dX1_writeEquations_45 : decode cX1_writeEquations 45 = .ok (.iload 7, 2) := by decide +kernel
theorem dX1_writeEquations_47 : decode cX1_writeEquations 47 = .ok (.aload_n 1, 1) := by decide +kernel
theorem dX1_writeEquations_48 : decode cX1_writeEquations 48 = .ok (.getfield 31, 3) := by decide +kernel
theorem dX1_writeEquations_51 : decode cX1_writeEquations 51 = .ok (.if_icmp .ge 46, 3) := by decide +kernel
theorem dX1_writeEquations_54 : decode cX1_writeEquations 54 = .ok (.iload_n 2, 1) := by decide +kernel
theorem dX1_writeEquations_55 : decode cX1_writeEquations 55 = .ok (.iload 7, 2) := by decide +kernel
theorem dX1_writeEquations_57 : decode cX1_writeEquations 57 = .ok (.invokestatic 47, 3) := by decide +kernel
theorem dX1_writeEquations_60 : decode cX1_writeEquations 60 = .ok (.ifCond .eq 31, 3) := by decide +kernel
theorem dX1_writeEquations_63 : decode cX1_writeEquations 63 = .ok (.aload_n 0, 1) := by decide +kernel
theorem dX1_writeEquations_64 : decode cX1_writeEquations 64 = .ok (.getfield 21, 3) := by decide +kernel
theorem dX1_writeEquations_67 : decode cX1_writeEquations 67 = .ok (.iload 4, 2) := by decide +kernel
theorem dX1_writeEquations_69 : decode cX1_writeEquations 69 = .ok (.iconst 4, 1) := by decide +kernel
theorem dX1_writeEquations_70 : decode cX1_writeEquations 70 = .ok (.imul, 1) := by decide +kernel
theorem dX1_writeEquations_71 : decode cX1_writeEquations 71 = .ok (.iload 6, 2) := by decide +kernel
theorem dX1_writeEquations_73 : decode cX1_writeEquations 73 = .ok (.iadd, 1) := by decide +kernel
theorem dX1_writeEquations_74 : decode cX1_writeEquations 74 = .ok (.aload_n 1, 1) := by decide +kernel
theorem dX1_writeEquations_75 : decode cX1_writeEquations 75 = .ok (.getfield 59, 3) := by decide +kernel
theorem dX1_writeEquations_78 : decode cX1_writeEquations 78 = .ok (.iload 7, 2) := by decide +kernel
theorem dX1_writeEquations_80 : decode cX1_writeEquations 80 = .ok (.iconst 4, 1) := by decide +kernel
theorem dX1_writeEquations_81 : decode cX1_writeEquations 81 = .ok (.imul, 1) := by decide +kernel
theorem dX1_writeEquations_82 : decode cX1_writeEquations 82 = .ok (.iload 5, 2) := by decide +kernel
theorem dX1_writeEquations_84 : decode cX1_writeEquations 84 = .ok (.iadd, 1) := by decide +kernel
theorem dX1_writeEquations_85 : decode cX1_writeEquations 85 = .ok (.iaload, 1) := by decide +kernel
theorem dX1_writeEquations_86 : decode cX1_writeEquations 86 = .ok (.i2l, 1) := by decide +kernel
theorem dX1_writeEquations_87 : decode cX1_writeEquations 87 = .ok (.lastore, 1) := by decide +kernel
theorem dX1_writeEquations_88 : decode cX1_writeEquations 88 = .ok (.iinc 6 1, 3) := by decide +kernel
theorem dX1_writeEquations_91 : decode cX1_writeEquations 91 = .ok (.iinc 7 1, 3) := by decide +kernel
theorem dX1_writeEquations_94 : decode cX1_writeEquations 94 = .ok (.goto (-49), 3) := by decide +kernel
theorem dX1_writeEquations_97 : decode cX1_writeEquations 97 = .ok (.iinc 4 1, 3) := by decide +kernel
theorem dX1_writeEquations_100 : decode cX1_writeEquations 100 = .ok (.iinc 5 1, 3) := by decide +kernel
theorem dX1_writeEquations_103 : decode cX1_writeEquations 103 = .ok (.goto (-97), 3) := by decide +kernel
theorem dX1_writeEquations_106 : decode cX1_writeEquations 106 = .ok (.return_, 1) := by decide +kernel
theorem dX1_tryCorner_0 : decode cX1_tryCorner 0 = .ok (.iload_n 2, 1) := by decide +kernel
theorem dX1_tryCorner_1 : decode cX1_tryCorner 1 = .ok (.invokestatic 62, 3) := by decide +kernel
theorem dX1_tryCorner_4 : decode cX1_tryCorner 4 = .ok (.istore 4, 2) := by decide +kernel
theorem dX1_tryCorner_6 : decode cX1_tryCorner 6 = .ok (.iload_n 3, 1) := by decide +kernel
theorem dX1_tryCorner_7 : decode cX1_tryCorner 7 = .ok (.invokestatic 62, 3) := by decide +kernel
theorem dX1_tryCorner_10 : decode cX1_tryCorner 10 = .ok (.iload 4, 2) := by decide +kernel
theorem dX1_tryCorner_12 : decode cX1_tryCorner 12 = .ok (.if_icmp .ne 13, 3) := by decide +kernel
theorem dX1_tryCorner_15 : decode cX1_tryCorner 15 = .ok (.aload_n 0, 1) := by decide +kernel
theorem dX1_tryCorner_16 : decode cX1_tryCorner 16 = .ok (.getfield 27, 3) := by decide +kernel
theorem dX1_tryCorner_19 : decode cX1_tryCorner 19 = .ok (.sipush 210, 3) := by decide +kernel
theorem dX1_tryCorner_22 : decode cX1_tryCorner 22 = .ok (.if_icmp .lt 4, 3) := by decide +kernel
theorem dX1_tryCorner_25 : decode cX1_tryCorner 25 = .ok (.return_, 1) := by decide +kernel
theorem dX1_tryCorner_26 : decode cX1_tryCorner 26 = .ok (.aload_n 0, 1) := by decide +kernel
theorem dX1_tryCorner_27 : decode cX1_tryCorner 27 = .ok (.aload_n 1, 1) := by decide +kernel
theorem dX1_tryCorner_28 : decode cX1_tryCorner 28 = .ok (.iload_n 2, 1) := by decide +kernel
theorem dX1_tryCorner_29 : decode cX1_tryCorner 29 = .ok (.iload_n 3, 1) := by decide +kernel
theorem dX1_tryCorner_30 : decode cX1_tryCorner 30 = .ok (.invokevirtual 68, 3) := by decide +kernel
theorem dX1_tryCorner_33 : decode cX1_tryCorner 33 = .ok (.aload_n 0, 1) := by decide +kernel
theorem dX1_tryCorner_34 : decode cX1_tryCorner 34 = .ok (.getfield 21, 3) := by decide +kernel
theorem dX1_tryCorner_37 : decode cX1_tryCorner 37 = .ok (.iload 4, 2) := by decide +kernel
theorem dX1_tryCorner_39 : decode cX1_tryCorner 39 = .ok (.iconst 0, 1) := by decide +kernel
theorem dX1_tryCorner_40 : decode cX1_tryCorner 40 = .ok (.iconst 0, 1) := by decide +kernel
theorem dX1_tryCorner_41 : decode cX1_tryCorner 41 = .ok (.invokestatic 71, 3) := by decide +kernel
theorem dX1_tryCorner_44 : decode cX1_tryCorner 44 = .ok (.lstore 5, 2) := by decide +kernel
theorem dX1_tryCorner_46 : decode cX1_tryCorner 46 = .ok (.lload 5, 2) := by decide +kernel
theorem dX1_tryCorner_48 : decode cX1_tryCorner 48 = .ok (.lconst 0, 1) := by decide +kernel
theorem dX1_tryCorner_49 : decode cX1_tryCorner 49 = .ok (.lcmp, 1) := by decide +kernel
theorem dX1_tryCorner_50 : decode cX1_tryCorner 50 = .ok (.ifCond .eq 15, 3) := by decide +kernel
theorem dX1_tryCorner_53 : decode cX1_tryCorner 53 = .ok (.aload_n 0, 1) := by decide +kernel
theorem dX1_tryCorner_54 : decode cX1_tryCorner 54 = .ok (.iload_n 2, 1) := by decide +kernel
theorem dX1_tryCorner_55 : decode cX1_tryCorner 55 = .ok (.iload 4, 2) := by decide +kernel
theorem dX1_tryCorner_57 : decode cX1_tryCorner 57 = .ok (.lload 5, 2) := by decide +kernel
theorem dX1_tryCorner_59 : decode cX1_tryCorner 59 = .ok (.invokevirtual 75, 3) := by decide +kernel
theorem dX1_tryCorner_62 : decode cX1_tryCorner 62 = .ok (.ifCond .ne 4, 3) := by decide +kernel
theorem dX1_tryCorner_65 : decode cX1_tryCorner 65 = .ok (.return_, 1) := by decide +kernel
theorem dX1_tryCorner_66 : decode cX1_tryCorner 66 = .ok (.aload_n 0, 1) := by decide +kernel
theorem dX1_tryCorner_67 : decode cX1_tryCorner 67 = .ok (.getfield 15, 3) := by decide +kernel
theorem dX1_tryCorner_70 : decode cX1_tryCorner 70 = .ok (.aload_n 0, 1) := by decide +kernel
theorem dX1_tryCorner_71 : decode cX1_tryCorner 71 = .ok (.getfield 27, 3) := by decide +kernel
theorem dX1_tryCorner_74 : decode cX1_tryCorner 74 = .ok (.lload 5, 2) := by decide +kernel
theorem dX1_tryCorner_76 : decode cX1_tryCorner 76 = .ok (.invokestatic 79, 3) := by decide +kernel
theorem dX1_tryCorner_79 : decode cX1_tryCorner 79 = .ok (.lastore, 1) := by decide +kernel
theorem dX1_tryCorner_80 : decode cX1_tryCorner 80 = .ok (.aload_n 0, 1) := by decide +kernel
theorem dX1_tryCorner_81 : decode cX1_tryCorner 81 = .ok (.getfield 11, 3) := by decide +kernel
theorem dX1_tryCorner_84 : decode cX1_tryCorner 84 = .ok (.aload_n 0, 1) := by decide +kernel
theorem dX1_tryCorner_85 : decode cX1_tryCorner 85 = .ok (.getfield 27, 3) := by decide +kernel
theorem dX1_tryCorner_88 : decode cX1_tryCorner 88 = .ok (.aload_n 0, 1) := by decide +kernel
theorem dX1_tryCorner_89 : decode cX1_tryCorner 89 = .ok (.aload_n 1, 1) := by decide +kernel
theorem dX1_tryCorner_90 : decode cX1_tryCorner 90 = .ok (.aload_n 0, 1) := by decide +kernel
theorem dX1_tryCorner_91 : decode cX1_tryCorner 91 = .ok (.getfield 27, 3) := by decide +kernel
theorem dX1_tryCorner_94 : decode cX1_tryCorner 94 = .ok (.invokevirtual 85, 3) := by decide +kernel
theorem dX1_tryCorner_97 : decode cX1_tryCorner 97 = .ok (.lastore, 1) := by decide +kernel
theorem dX1_tryCorner_98 : decode cX1_tryCorner 98 = .ok (.aload_n 0, 1) := by decide +kernel
theorem dX1_tryCorner_99 : decode cX1_tryCorner 99 = .ok (.dup, 1) := by decide +kernel
theorem dX1_tryCorner_100 : decode cX1_tryCorner 100 = .ok (.getfield 27, 3) := by decide +kernel
theorem dX1_tryCorner_103 : decode cX1_tryCorner 103 = .ok (.iconst 1, 1) := by decide +kernel
theorem dX1_tryCorner_104 : decode cX1_tryCorner 104 = .ok (.iadd, 1) := by decide +kernel
theorem dX1_tryCorner_105 : decode cX1_tryCorner 105 = .ok (.putfield 27, 3) := by decide +kernel
theorem dX1_tryCorner_108 : decode cX1_tryCorner 108 = .ok (.return_, 1) := by decide +kernel
theorem dX1_writePrices_0 : decode cX1_writePrices 0 = .ok (.iconst 0, 1) := by decide +kernel
theorem dX1_writePrices_1 : decode cX1_writePrices 1 = .ok (.istore 5, 2) := by decide +kernel
theorem dX1_writePrices_3 : decode cX1_writePrices 3 = .ok (.iconst 0, 1) := by decide +kernel
theorem dX1_writePrices_4 : decode cX1_writePrices 4 = .ok (.istore 6, 2) := by decide +kernel
theorem dX1_writePrices_6 : decode cX1_writePrices 6 = .ok (.iload 6, 2) := by decide +kernel
theorem dX1_writePrices_8 : decode cX1_writePrices 8 = .ok (.bipush 6, 2) := by decide +kernel
theorem dX1_writePrices_10 : decode cX1_writePrices 10 = .ok (.if_icmp .ge 87, 3) := by decide +kernel
theorem dX1_writePrices_13 : decode cX1_writePrices 13 = .ok (.lconst 0, 1) := by decide +kernel
theorem dX1_writePrices_14 : decode cX1_writePrices 14 = .ok (.lstore 7, 2) := by decide +kernel
theorem dX1_writePrices_16 : decode cX1_writePrices 16 = .ok (.iload_n 1, 1) := by decide +kernel
theorem dX1_writePrices_17 : decode cX1_writePrices 17 = .ok (.iload 6, 2) := by decide +kernel
theorem dX1_writePrices_19 : decode cX1_writePrices 19 = .ok (.invokestatic 47, 3) := by decide +kernel
theorem dX1_writePrices_22 : decode cX1_writePrices 22 = .ok (.ifCond .eq 32, 3) := by decide +kernel
theorem dX1_writePrices_25 : decode cX1_writePrices 25 = .ok (.aload_n 0, 1) := by decide +kernel
theorem dX1_writePrices_26 : decode cX1_writePrices 26 = .ok (.iload 5, 2) := by decide +kernel
theorem dX1_writePrices_28 : decode cX1_writePrices 28 = .ok (.iload_n 2, 1) := by decide +kernel
theorem dX1_writePrices_29 : decode cX1_writePrices 29 = .ok (.invokevirtual 89, 3) := by decide +kernel
theorem dX1_writePrices_32 : decode cX1_writePrices 32 = .ok (.aload_n 0, 1) := by decide +kernel
theorem dX1_writePrices_33 : decode cX1_writePrices 33 = .ok (.getfield 21, 3) := by decide +kernel
theorem dX1_writePrices_36 : decode cX1_writePrices 36 = .ok (.iload_n 2, 1) := by decide +kernel
theorem dX1_writePrices_37 : decode cX1_writePrices 37 = .ok (.iconst 0, 1) := by decide +kernel
theorem dX1_writePrices_38 : decode cX1_writePrices 38 = .ok (.iconst 0, 1) := by decide +kernel
theorem dX1_writePrices_39 : decode cX1_writePrices 39 = .ok (.invokestatic 71, 3) := by decide +kernel
theorem dX1_writePrices_42 : decode cX1_writePrices 42 = .ok (.lstore 7, 2) := by decide +kernel
theorem dX1_writePrices_44 : decode cX1_writePrices 44 = .ok (.aload_n 0, 1) := by decide +kernel
theorem dX1_writePrices_45 : decode cX1_writePrices 45 = .ok (.iload 5, 2) := by decide +kernel
theorem dX1_writePrices_47 : decode cX1_writePrices 47 = .ok (.iload_n 2, 1) := by decide +kernel
theorem dX1_writePrices_48 : decode cX1_writePrices 48 = .ok (.invokevirtual 89, 3) := by decide +kernel
theorem dX1_writePrices_51 : decode cX1_writePrices 51 = .ok (.iinc 5 1, 3) := by decide +kernel
theorem dX1_writePrices_54 : decode cX1_writePrices 54 = .ok (.lload_n 3, 1) := by decide +kernel
theorem dX1_writePrices_55 : decode cX1_writePrices 55 = .ok (.lconst 0, 1) := by decide +kernel
theorem dX1_writePrices_56 : decode cX1_writePrices 56 = .ok (.lcmp, 1) := by decide +kernel
theorem dX1_writePrices_57 : decode cX1_writePrices 57 = .ok (.ifCond .ge 8, 3) := by decide +kernel
theorem dX1_writePrices_60 : decode cX1_writePrices 60 = .ok (.lload 7, 2) := by decide +kernel
theorem dX1_writePrices_62 : decode cX1_writePrices 62 = .ok (.lneg, 1) := by decide +kernel
theorem dX1_writePrices_63 : decode cX1_writePrices 63 = .ok (.lstore 7, 2) := by decide +kernel
theorem dX1_writePrices_65 : decode cX1_writePrices 65 = .ok (.lload 7, 2) := by decide +kernel
theorem dX1_writePrices_67 : decode cX1_writePrices 67 = .ok (.lconst 0, 1) := by decide +kernel
theorem dX1_writePrices_68 : decode cX1_writePrices 68 = .ok (.lcmp, 1) := by decide +kernel
theorem dX1_writePrices_69 : decode cX1_writePrices 69 = .ok (.ifCond .ge 5, 3) := by decide +kernel
theorem dX1_writePrices_72 : decode cX1_writePrices 72 = .ok (.iconst 0, 1) := by decide +kernel
theorem dX1_writePrices_73 : decode cX1_writePrices 73 = .ok (.ireturn, 1) := by decide +kernel
theorem dX1_writePrices_74 : decode cX1_writePrices 74 = .ok (.aload_n 0, 1) := by decide +kernel
theorem dX1_writePrices_75 : decode cX1_writePrices 75 = .ok (.getfield 18, 3) := by decide +kernel
theorem dX1_writePrices_78 : decode cX1_writePrices 78 = .ok (.aload_n 0, 1) := by decide +kernel
theorem dX1_writePrices_79 : decode cX1_writePrices 79 = .ok (.getfield 27, 3) := by decide +kernel
theorem dX1_writePrices_82 : decode cX1_writePrices 82 = .ok (.bipush 6, 2) := by decide +kernel
theorem dX1_writePrices_84 : decode cX1_writePrices 84 = .ok (.imul, 1) := by decide +kernel
theorem dX1_writePrices_85 : decode cX1_writePrices 85 = .ok (.iload 6, 2) := by decide +kernel
theorem dX1_writePrices_87 : decode cX1_writePrices 87 = .ok (.iadd, 1) := by decide +kernel
theorem dX1_writePrices_88 : decode cX1_writePrices 88 = .ok (.lload 7, 2) := by decide +kernel
theorem dX1_writePrices_90 : decode cX1_writePrices 90 = .ok (.lastore, 1) := by decide +kernel
theorem dX1_writePrices_91 : decode cX1_writePrices 91 = .ok (.iinc 6 1, 3) := by decide +kernel
theorem dX1_writePrices_94 : decode cX1_writePrices 94 = .ok (.goto (-88), 3) := by decide +kernel
theorem dX1_writePrices_97 : decode cX1_writePrices 97 = .ok (.iconst 1, 1) := by decide +kernel
theorem dX1_writePrices_98 : decode cX1_writePrices 98 = .ok (.ireturn, 1) := by decide +kernel
theorem dX1_swapDues_0 : decode cX1_swapDues 0 = .ok (.iconst 0, 1) := by decide +kernel
theorem dX1_swapDues_1 : decode cX1_swapDues 1 = .ok (.istore_n 3, 1) := by decide +kernel
theorem dX1_swapDues_2 : decode cX1_swapDues 2 = .ok (.iload_n 3, 1) := by decide +kernel
theorem dX1_swapDues_3 : decode cX1_swapDues 3 = .ok (.iload_n 2, 1) := by decide +kernel
theorem dX1_swapDues_4 : decode cX1_swapDues 4 = .ok (.if_icmp .ge 46, 3) := by decide +kernel
theorem dX1_swapDues_7 : decode cX1_swapDues 7 = .ok (.iload_n 3, 1) := by decide +kernel
theorem dX1_swapDues_8 : decode cX1_swapDues 8 = .ok (.iconst 4, 1) := by decide +kernel
theorem dX1_swapDues_9 : decode cX1_swapDues 9 = .ok (.imul, 1) := by decide +kernel
theorem dX1_swapDues_10 : decode cX1_swapDues 10 = .ok (.iload_n 1, 1) := by decide +kernel
theorem dX1_swapDues_11 : decode cX1_swapDues 11 = .ok (.iadd, 1) := by decide +kernel
theorem dX1_swapDues_12 : decode cX1_swapDues 12 = .ok (.istore 4, 2) := by decide +kernel
theorem dX1_swapDues_14 : decode cX1_swapDues 14 = .ok (.aload_n 0, 1) := by decide +kernel
theorem dX1_swapDues_15 : decode cX1_swapDues 15 = .ok (.getfield 21, 3) := by decide +kernel
theorem dX1_swapDues_18 : decode cX1_swapDues 18 = .ok (.iload 4, 2) := by decide +kernel
theorem dX1_swapDues_20 : decode cX1_swapDues 20 = .ok (.laload, 1) := by decide +kernel
theorem dX1_swapDues_21 : decode cX1_swapDues 21 = .ok (.lstore 5, 2) := by decide +kernel
theorem dX1_swapDues_23 : decode cX1_swapDues 23 = .ok (.aload_n 0, 1) := by decide +kernel
theorem dX1_swapDues_24 : decode cX1_swapDues 24 = .ok (.getfield 21, 3) := by decide +kernel
theorem dX1_swapDues_27 : decode cX1_swapDues 27 = .ok (.iload 4, 2) := by decide +kernel
theorem dX1_swapDues_29 : decode cX1_swapDues 29 = .ok (.aload_n 0, 1) := by decide +kernel
theorem dX1_swapDues_30 : decode cX1_swapDues 30 = .ok (.getfield 24, 3) := by decide +kernel
theorem dX1_swapDues_33 : decode cX1_swapDues 33 = .ok (.iload_n 3, 1) := by decide +kernel
theorem dX1_swapDues_34 : decode cX1_swapDues 34 = .ok (.laload, 1) := by decide +kernel
theorem dX1_swapDues_35 : decode cX1_swapDues 35 = .ok (.lastore, 1) := by decide +kernel
theorem dX1_swapDues_36 : decode cX1_swapDues 36 = .ok (.aload_n 0, 1) := by decide +kernel
theorem dX1_swapDues_37 : decode cX1_swapDues 37 = .ok (.getfield 24, 3) := by decide +kernel
theorem dX1_swapDues_40 : decode cX1_swapDues 40 = .ok (.iload_n 3, 1) := by decide +kernel
theorem dX1_swapDues_41 : decode cX1_swapDues 41 = .ok (.lload 5, 2) := by decide +kernel
theorem dX1_swapDues_43 : decode cX1_swapDues 43 = .ok (.lastore, 1) := by decide +kernel
theorem dX1_swapDues_44 : decode cX1_swapDues 44 = .ok (.iinc 3 1, 3) := by decide +kernel
theorem dX1_swapDues_47 : decode cX1_swapDues 47 = .ok (.goto (-45), 3) := by decide +kernel
theorem dX1_swapDues_50 : decode cX1_swapDues 50 = .ok (.return_, 1) := by decide +kernel
theorem dX1_determinant_0 : decode cX1_determinant 0 = .ok (.iload_n 2, 1) := by decide +kernel
theorem dX1_determinant_1 : decode cX1_determinant 1 = .ok (.iload_n 1, 1) := by decide +kernel
theorem dX1_determinant_2 : decode cX1_determinant 2 = .ok (.if_icmp .ge 8, 3) := by decide +kernel
theorem dX1_determinant_5 : decode cX1_determinant 5 = .ok (.iload_n 2, 1) := by decide +kernel
theorem dX1_determinant_6 : decode cX1_determinant 6 = .ok (.iconst 4, 1) := by decide +kernel
theorem dX1_determinant_7 : decode cX1_determinant 7 = .ok (.if_icmp .lt 5, 3) := by decide +kernel
theorem dX1_determinant_10 : decode cX1_determinant 10 = .ok (.lconst 1, 1) := by decide +kernel
theorem dX1_determinant_11 : decode cX1_determinant 11 = .ok (.lreturn, 1) := by decide +kernel
theorem dX1_determinant_12 : decode cX1_determinant 12 = .ok (.lconst 0, 1) := by decide +kernel
theorem dX1_determinant_13 : decode cX1_determinant 13 = .ok (.lstore 4, 2) := by decide +kernel
theorem dX1_determinant_15 : decode cX1_determinant 15 = .ok (.lconst 1, 1) := by decide +kernel
theorem dX1_determinant_16 : decode cX1_determinant 16 = .ok (.lstore 6, 2) := by decide +kernel
theorem dX1_determinant_18 : decode cX1_determinant 18 = .ok (.iconst 0, 1) := by decide +kernel
theorem dX1_determinant_19 : decode cX1_determinant 19 = .ok (.istore 8, 2) := by decide +kernel
theorem dX1_determinant_21 : decode cX1_determinant 21 = .ok (.iload 8, 2) := by decide +kernel
theorem dX1_determinant_23 : decode cX1_determinant 23 = .ok (.iload_n 1, 1) := by decide +kernel
theorem dX1_determinant_24 : decode cX1_determinant 24 = .ok (.if_icmp .ge 65, 3) := by decide +kernel
theorem dX1_determinant_27 : decode cX1_determinant 27 = .ok (.iload_n 3, 1) := by decide +kernel
theorem dX1_determinant_28 : decode cX1_determinant 28 = .ok (.iload 8, 2) := by decide +kernel
theorem dX1_determinant_30 : decode cX1_determinant 30 = .ok (.invokestatic 47, 3) := by decide +kernel
theorem dX1_determinant_33 : decode cX1_determinant 33 = .ok (.ifCond .ne 50, 3) := by decide +kernel
theorem dX1_determinant_36 : decode cX1_determinant 36 = .ok (.aload_n 0, 1) := by decide +kernel
theorem dX1_determinant_37 : decode cX1_determinant 37 = .ok (.iload_n 2, 1) := by decide +kernel
theorem dX1_determinant_38 : decode cX1_determinant 38 = .ok (.iconst 4, 1) := by decide +kernel
theorem dX1_determinant_39 : decode cX1_determinant 39 = .ok (.imul, 1) := by decide +kernel
theorem dX1_determinant_40 : decode cX1_determinant 40 = .ok (.iload 8, 2) := by decide +kernel
theorem dX1_determinant_42 : decode cX1_determinant 42 = .ok (.iadd, 1) := by decide +kernel
theorem dX1_determinant_43 : decode cX1_determinant 43 = .ok (.laload, 1) := by decide +kernel
theorem dX1_determinant_44 : decode cX1_determinant 44 = .ok (.lstore 9, 2) := by decide +kernel
theorem dX1_determinant_46 : decode cX1_determinant 46 = .ok (.lload 9, 2) := by decide +kernel
theorem dX1_determinant_48 : decode cX1_determinant 48 = .ok (.lconst 0, 1) := by decide +kernel
theorem dX1_determinant_49 : decode cX1_determinant 49 = .ok (.lcmp, 1) := by decide +kernel
theorem dX1_determinant_50 : decode cX1_determinant 50 = .ok (.ifCond .eq 28, 3) := by decide +kernel
theorem dX1_determinant_53 : decode cX1_determinant 53 = .ok (.lload 4, 2) := by decide +kernel
theorem dX1_determinant_55 : decode cX1_determinant 55 = .ok (.lload 6, 2) := by decide +kernel
theorem dX1_determinant_57 : decode cX1_determinant 57 = .ok (.lload 9, 2) := by decide +kernel
theorem dX1_determinant_59 : decode cX1_determinant 59 = .ok (.lmul, 1) := by decide +kernel
theorem dX1_determinant_60 : decode cX1_determinant 60 = .ok (.aload_n 0, 1) := by decide +kernel
theorem dX1_determinant_61 : decode cX1_determinant 61 = .ok (.iload_n 1, 1) := by decide +kernel
theorem dX1_determinant_62 : decode cX1_determinant 62 = .ok (.iload_n 2, 1) := by decide +kernel
theorem dX1_determinant_63 : decode cX1_determinant 63 = .ok (.iconst 1, 1) := by decide +kernel
theorem dX1_determinant_64 : decode cX1_determinant 64 = .ok (.iadd, 1) := by decide +kernel
theorem dX1_determinant_65 : decode cX1_determinant 65 = .ok (.iload_n 3, 1) := by decide +kernel
theorem dX1_determinant_66 : decode cX1_determinant 66 = .ok (.iconst 1, 1) := by decide +kernel
theorem dX1_determinant_67 : decode cX1_determinant 67 = .ok (.iload 8, 2) := by decide +kernel
theorem dX1_determinant_69 : decode cX1_determinant 69 = .ok (.ishl, 1) := by decide +kernel
theorem dX1_determinant_70 : decode cX1_determinant 70 = .ok (.ior, 1) := by decide +kernel
theorem dX1_determinant_71 : decode cX1_determinant 71 = .ok (.invokestatic 71, 3) := by decide +kernel
theorem dX1_determinant_74 : decode cX1_determinant 74 = .ok (.lmul, 1) := by decide +kernel
theorem dX1_determinant_75 : decode cX1_determinant 75 = .ok (.ladd, 1) := by decide +kernel
theorem dX1_determinant_76 : decode cX1_determinant 76 = .ok (.lstore 4, 2) := by decide +kernel
theorem dX1_determinant_78 : decode cX1_determinant 78 = .ok (.lload 6, 2) := by decide +kernel
theorem dX1_determinant_80 : decode cX1_determinant 80 = .ok (.lneg, 1) := by decide +kernel
theorem dX1_determinant_81 : decode cX1_determinant 81 = .ok (.lstore 6, 2) := by decide +kernel
theorem dX1_determinant_83 : decode cX1_determinant 83 = .ok (.iinc 8 1, 3) := by decide +kernel
theorem dX1_determinant_86 : decode cX1_determinant 86 = .ok (.goto (-65), 3) := by decide +kernel
theorem dX1_determinant_89 : decode cX1_determinant 89 = .ok (.lload 4, 2) := by decide +kernel
theorem dX1_determinant_91 : decode cX1_determinant 91 = .ok (.lreturn, 1) := by decide +kernel
theorem dX1_boundAt_0 : decode cX1_boundAt 0 = .ok (.lconst 0, 1) := by decide +kernel
theorem dX1_boundAt_1 : decode cX1_boundAt 1 = .ok (.lstore_n 3, 1) := by decide +kernel
theorem dX1_boundAt_2 : decode cX1_boundAt 2 = .ok (.iconst 0, 1) := by decide +kernel
theorem dX1_boundAt_3 : decode cX1_boundAt 3 = .ok (.istore 5, 2) := by decide +kernel
theorem dX1_boundAt_5 : decode cX1_boundAt 5 = .ok (.iload 5, 2) := by decide +kernel
theorem dX1_boundAt_7 : decode cX1_boundAt 7 = .ok (.aload_n 1, 1) := by decide +kernel
theorem dX1_boundAt_8 : decode cX1_boundAt 8 = .ok (.getfield 31, 3) := by decide +kernel
theorem dX1_boundAt_11 : decode cX1_boundAt 11 = .ok (.if_icmp .ge 28, 3) := by decide +kernel
theorem dX1_boundAt_14 : decode cX1_boundAt 14 = .ok (.lload_n 3, 1) := by decide +kernel
theorem dX1_boundAt_15 : decode cX1_boundAt 15 = .ok (.aload_n 1, 1) := by decide +kernel
theorem dX1_boundAt_16 : decode cX1_boundAt 16 = .ok (.getfield 93, 3) := by decide +kernel
theorem dX1_boundAt_19 : decode cX1_boundAt 19 = .ok (.iload 5, 2) := by decide +kernel
theorem dX1_boundAt_21 : decode cX1_boundAt 21 = .ok (.iaload, 1) := by decide +kernel
theorem dX1_boundAt_22 : decode cX1_boundAt 22 = .ok (.i2l, 1) := by decide +kernel
theorem dX1_boundAt_23 : decode cX1_boundAt 23 = .ok (.aload_n 0, 1) := by decide +kernel
theorem dX1_boundAt_24 : decode cX1_boundAt 24 = .ok (.iload_n 2, 1) := by decide +kernel
theorem dX1_boundAt_25 : decode cX1_boundAt 25 = .ok (.iload 5, 2) := by decide +kernel
theorem dX1_boundAt_27 : decode cX1_boundAt 27 = .ok (.invokevirtual 96, 3) := by decide +kernel
theorem dX1_boundAt_30 : decode cX1_boundAt 30 = .ok (.lmul, 1) := by decide +kernel
theorem dX1_boundAt_31 : decode cX1_boundAt 31 = .ok (.ladd, 1) := by decide +kernel
theorem dX1_boundAt_32 : decode cX1_boundAt 32 = .ok (.lstore_n 3, 1) := by decide +kernel
theorem dX1_boundAt_33 : decode cX1_boundAt 33 = .ok (.iinc 5 1, 3) := by decide +kernel
theorem dX1_boundAt_36 : decode cX1_boundAt 36 = .ok (.goto (-31), 3) := by decide +kernel
theorem dX1_boundAt_39 : decode cX1_boundAt 39 = .ok (.iconst 0, 1) := by decide +kernel
theorem dX1_boundAt_40 : decode cX1_boundAt 40 = .ok (.istore 5, 2) := by decide +kernel
theorem dX1_boundAt_42 : decode cX1_boundAt 42 = .ok (.iload 5, 2) := by decide +kernel
theorem dX1_boundAt_44 : decode cX1_boundAt 44 = .ok (.aload_n 1, 1) := by decide +kernel
theorem dX1_boundAt_45 : decode cX1_boundAt 45 = .ok (.getfield 40, 3) := by decide +kernel
theorem dX1_boundAt_48 : decode cX1_boundAt 48 = .ok (.if_icmp .ge 88, 3) := by decide +kernel
theorem dX1_boundAt_51 : decode cX1_boundAt 51 = .ok (.aload_n 1, 1) := by decide +kernel
theorem dX1_boundAt_52 : decode cX1_boundAt 52 = .ok (.getfield 55, 3) := by decide +kernel
theorem dX1_boundAt_55 : decode cX1_boundAt 55 = .ok (.iload 5, 2) := by decide +kernel
theorem dX1_boundAt_57 : decode cX1_boundAt 57 = .ok (.iaload, 1) := by decide +kernel
theorem dX1_boundAt_58 : decode cX1_boundAt 58 = .ok (.i2l, 1) := by decide +kernel
theorem dX1_boundAt_59 : decode cX1_boundAt 59 = .ok (.aload_n 0, 1) := by decide +kernel
theorem dX1_boundAt_60 : decode cX1_boundAt 60 = .ok (.getfield 15, 3) := by decide +kernel
theorem dX1_boundAt_63 : decode cX1_boundAt 63 = .ok (.iload_n 2, 1) := by decide +kernel
theorem dX1_boundAt_64 : decode cX1_boundAt 64 = .ok (.laload, 1) := by decide +kernel
theorem dX1_boundAt_65 : decode cX1_boundAt 65 = .ok (.lmul, 1) := by decide +kernel
theorem dX1_boundAt_66 : decode cX1_boundAt 66 = .ok (.lstore 6, 2) := by decide +kernel
theorem dX1_boundAt_68 : decode cX1_boundAt 68 = .ok (.iconst 0, 1) := by decide +kernel
theorem dX1_boundAt_69 : decode cX1_boundAt 69 = .ok (.istore 8, 2) := by decide +kernel
theorem dX1_boundAt_71 : decode cX1_boundAt 71 = .ok (.iload 8, 2) := by decide +kernel
theorem dX1_boundAt_73 : decode cX1_boundAt 73 = .ok (.aload_n 1, 1) := by decide +kernel
theorem dX1_boundAt_74 : decode cX1_boundAt 74 = .ok (.getfield 31, 3) := by decide +kernel
theorem dX1_boundAt_77 : decode cX1_boundAt 77 = .ok (.if_icmp .ge 35, 3) := by decide +kernel
theorem dX1_boundAt_80 : decode cX1_boundAt 80 = .ok (.lload 6, 2) := by decide +kernel
theorem dX1_boundAt_82 : decode cX1_boundAt 82 = .ok (.aload_n 1, 1) := by decide +kernel
theorem dX1_boundAt_83 : decode cX1_boundAt 83 = .ok (.getfield 59, 3) := by decide +kernel
theorem dX1_boundAt_86 : decode cX1_boundAt 86 = .ok (.iload 8, 2) := by decide +kernel
theorem dX1_boundAt_88 : decode cX1_boundAt 88 = .ok (.iconst 4, 1) := by decide +kernel
theorem dX1_boundAt_89 : decode cX1_boundAt 89 = .ok (.imul, 1) := by decide +kernel
theorem dX1_boundAt_90 : decode cX1_boundAt 90 = .ok (.iload 5, 2) := by decide +kernel
theorem dX1_boundAt_92 : decode cX1_boundAt 92 = .ok (.iadd, 1) := by decide +kernel
theorem dX1_boundAt_93 : decode cX1_boundAt 93 = .ok (.iaload, 1) := by decide +kernel
theorem dX1_boundAt_94 : decode cX1_boundAt 94 = .ok (.i2l, 1) := by decide +kernel
theorem dX1_boundAt_95 : decode cX1_boundAt 95 = .ok (.aload_n 0, 1) := by decide +kernel
theorem dX1_boundAt_96 : decode cX1_boundAt 96 = .ok (.iload_n 2, 1) := by decide +kernel
theorem dX1_boundAt_97 : decode cX1_boundAt 97 = .ok (.iload 8, 2) := by decide +kernel
theorem dX1_boundAt_99 : decode cX1_boundAt 99 = .ok (.invokevirtual 96, 3) := by decide +kernel
theorem dX1_boundAt_102 : decode cX1_boundAt 102 = .ok (.lmul, 1) := by decide +kernel
theorem dX1_boundAt_103 : decode cX1_boundAt 103 = .ok (.lsub, 1) := by decide +kernel
theorem dX1_boundAt_104 : decode cX1_boundAt 104 = .ok (.lstore 6, 2) := by decide +kernel
theorem dX1_boundAt_106 : decode cX1_boundAt 106 = .ok (.iinc 8 1, 3) := by decide +kernel
theorem dX1_boundAt_109 : decode cX1_boundAt 109 = .ok (.goto (-38), 3) := by decide +kernel
theorem dX1_boundAt_112 : decode cX1_boundAt 112 = .ok (.lload_n 3, 1) := by decide +kernel
theorem dX1_boundAt_113 : decode cX1_boundAt 113 = .ok (.aload_n 1, 1) := by decide +kernel
theorem dX1_boundAt_114 : decode cX1_boundAt 114 = .ok (.getfield 100, 3) := by decide +kernel
theorem dX1_boundAt_117 : decode cX1_boundAt 117 = .ok (.iload 5, 2) := by decide +kernel
theorem dX1_boundAt_119 : decode cX1_boundAt 119 = .ok (.iaload, 1) := by decide +kernel
theorem dX1_boundAt_120 : decode cX1_boundAt 120 = .ok (.i2l, 1) := by decide +kernel
theorem dX1_boundAt_121 : decode cX1_boundAt 121 = .ok (.lconst 0, 1) := by decide +kernel
theorem dX1_boundAt_122 : decode cX1_boundAt 122 = .ok (.lload 6, 2) := by decide +kernel
theorem dX1_boundAt_124 : decode cX1_boundAt 124 = .ok (.invokestatic 103, 3) := by decide +kernel
theorem dX1_boundAt_127 : decode cX1_boundAt 127 = .ok (.lmul, 1) := by decide +kernel
theorem dX1_boundAt_128 : decode cX1_boundAt 128 = .ok (.ladd, 1) := by decide +kernel
theorem dX1_boundAt_129 : decode cX1_boundAt 129 = .ok (.lstore_n 3, 1) := by decide +kernel
theorem dX1_boundAt_130 : decode cX1_boundAt 130 = .ok (.iinc 5 1, 3) := by decide +kernel
theorem dX1_boundAt_133 : decode cX1_boundAt 133 = .ok (.goto (-91), 3) := by decide +kernel
theorem dX1_boundAt_136 : decode cX1_boundAt 136 = .ok (.lload_n 3, 1) := by decide +kernel
theorem dX1_boundAt_137 : decode cX1_boundAt 137 = .ok (.lreturn, 1) := by decide +kernel
theorem dX1_slope_0 : decode cX1_slope 0 = .ok (.aload_n 0, 1) := by decide +kernel
theorem dX1_slope_1 : decode cX1_slope 1 = .ok (.getfield 18, 3) := by decide +kernel
theorem dX1_slope_4 : decode cX1_slope 4 = .ok (.iload_n 1, 1) := by decide +kernel
theorem dX1_slope_5 : decode cX1_slope 5 = .ok (.bipush 6, 2) := by decide +kernel
theorem dX1_slope_7 : decode cX1_slope 7 = .ok (.imul, 1) := by decide +kernel
theorem dX1_slope_8 : decode cX1_slope 8 = .ok (.iload_n 2, 1) := by decide +kernel
theorem dX1_slope_9 : decode cX1_slope 9 = .ok (.iadd, 1) := by decide +kernel
theorem dX1_slope_10 : decode cX1_slope 10 = .ok (.laload, 1) := by decide +kernel
theorem dX1_slope_11 : decode cX1_slope 11 = .ok (.lreturn, 1) := by decide +kernel
theorem dX1_leastBound_0 : decode cX1_leastBound 0 = .ok (.iconst 0, 1) := by decide +kernel
theorem dX1_leastBound_1 : decode cX1_leastBound 1 = .ok (.istore_n 1, 1) := by decide +kernel
theorem dX1_leastBound_2 : decode cX1_leastBound 2 = .ok (.iconst 1, 1) := by decide +kernel
theorem dX1_leastBound_3 : decode cX1_leastBound 3 = .ok (.istore_n 2, 1) := by decide +kernel
theorem dX1_leastBound_4 : decode cX1_leastBound 4 = .ok (.iload_n 2, 1) := by decide +kernel
theorem dX1_leastBound_5 : decode cX1_leastBound 5 = .ok (.aload_n 0, 1) := by decide +kernel
theorem dX1_leastBound_6 : decode cX1_leastBound 6 = .ok (.getfield 27, 3) := by decide +kernel
theorem dX1_leastBound_9 : decode cX1_leastBound 9 = .ok (.if_icmp .ge 22, 3) := by decide +kernel
theorem dX1_leastBound_12 : decode cX1_leastBound 12 = .ok (.aload_n 0, 1) := by decide +kernel
theorem dX1_leastBound_13 : decode cX1_leastBound 13 = .ok (.iload_n 2, 1) := by decide +kernel
theorem dX1_leastBound_14 : decode cX1_leastBound 14 = .ok (.iload_n 1, 1) := by decide +kernel
theorem dX1_leastBound_15 : decode cX1_leastBound 15 = .ok (.invokevirtual 107, 3) := by decide +kernel
theorem dX1_leastBound_18 : decode cX1_leastBound 18 = .ok (.lconst 0, 1) := by decide +kernel
theorem dX1_leastBound_19 : decode cX1_leastBound 19 = .ok (.lcmp, 1) := by decide +kernel
theorem dX1_leastBound_20 : decode cX1_leastBound 20 = .ok (.ifCond .ge 5, 3) := by decide +kernel
theorem dX1_leastBound_23 : decode cX1_leastBound 23 = .ok (.iload_n 2, 1) := by decide +kernel
theorem dX1_leastBound_24 : decode cX1_leastBound 24 = .ok (.istore_n 1, 1) := by decide +kernel
theorem dX1_leastBound_25 : decode cX1_leastBound 25 = .ok (.iinc 2 1, 3) := by decide +kernel
theorem dX1_leastBound_28 : decode cX1_leastBound 28 = .ok (.goto (-24), 3) := by decide +kernel
theorem dX1_leastBound_31 : decode cX1_leastBound 31 = .ok (.iload_n 1, 1) := by decide +kernel
theorem dX1_leastBound_32 : decode cX1_leastBound 32 = .ok (.ireturn, 1) := by decide +kernel
theorem dX1_leastBoundFlattest_0 : decode cX1_leastBoundFlattest 0 = .ok (.iconst 0, 1) := by decide +kernel
theorem dX1_leastBoundFlattest_1 : decode cX1_leastBoundFlattest 1 = .ok (.istore_n 2, 1) := by decide +kernel
theorem dX1_leastBoundFlattest_2 : decode cX1_leastBoundFlattest 2 = .ok (.iconst 1, 1) := by decide +kernel
theorem dX1_leastBoundFlattest_3 : decode cX1_leastBoundFlattest 3 = .ok (.istore_n 3, 1) := by decide +kernel
theorem dX1_leastBoundFlattest_4 : decode cX1_leastBoundFlattest 4 = .ok (.iload_n 3, 1) := by decide +kernel
theorem dX1_leastBoundFlattest_5 : decode cX1_leastBoundFlattest 5 = .ok (.aload_n 0, 1) := by decide +kernel
theorem dX1_leastBoundFlattest_6 : decode cX1_leastBoundFlattest 6 = .ok (.getfield 27, 3) := by decide +kernel
theorem dX1_leastBoundFlattest_9 : decode cX1_leastBoundFlattest 9 = .ok (.if_icmp .ge 45, 3) := by decide +kernel
theorem dX1_leastBoundFlattest_12 : decode cX1_leastBoundFlattest 12 = .ok (.aload_n 0, 1) := by decide +kernel
theorem dX1_leastBoundFlattest_13 : decode cX1_leastBoundFlattest 13 = .ok (.iload_n 3, 1) := by decide +kernel
theorem dX1_leastBoundFlattest_14 : decode cX1_leastBoundFlattest 14 = .ok (.iload_n 2, 1) := by decide +kernel
theorem dX1_leastBoundFlattest_15 : decode cX1_leastBoundFlattest 15 = .ok (.invokevirtual 107, 3) := by decide +kernel
theorem dX1_leastBoundFlattest_18 : decode cX1_leastBoundFlattest 18 = .ok (.lstore 4, 2) := by decide +kernel
theorem dX1_leastBoundFlattest_20 : decode cX1_leastBoundFlattest 20 = .ok (.lload 4, 2) := by decide +kernel
theorem dX1_leastBoundFlattest_22 : decode cX1_leastBoundFlattest 22 = .ok (.lconst 0, 1) := by decide +kernel
theorem dX1_leastBoundFlattest_23 : decode cX1_leastBoundFlattest 23 = .ok (.lcmp, 1) := by decide +kernel
theorem dX1_leastBoundFlattest_24 : decode cX1_leastBoundFlattest 24 = .ok (.ifCond .lt 22, 3) := by decide +kernel
theorem dX1_leastBoundFlattest_27 : decode cX1_leastBoundFlattest 27 = .ok (.lload 4, 2) := by decide +kernel
theorem dX1_leastBoundFlattest_29 : decode cX1_leastBoundFlattest 29 = .ok (.lconst 0, 1) := by decide +kernel
theorem dX1_leastBoundFlattest_30 : decode cX1_leastBoundFlattest 30 = .ok (.lcmp, 1) := by decide +kernel
theorem dX1_leastBoundFlattest_31 : decode cX1_leastBoundFlattest 31 = .ok (.ifCond .ne 17, 3) := by decide +kernel
theorem dX1_leastBoundFlattest_34 : decode cX1_leastBoundFlattest 34 = .ok (.aload_n 0, 1) := by decide +kernel
theorem dX1_leastBoundFlattest_35 : decode cX1_leastBoundFlattest 35 = .ok (.iload_n 3, 1) := by decide +kernel
theorem dX1_leastBoundFlattest_36 : decode cX1_leastBoundFlattest 36 = .ok (.iload_n 2, 1) := by decide +kernel
theorem dX1_leastBoundFlattest_37 : decode cX1_leastBoundFlattest 37 = .ok (.iload_n 1, 1) := by decide +kernel
theorem dX1_leastBoundFlattest_38 : decode cX1_leastBoundFlattest 38 = .ok (.invokevirtual 110, 3) := by decide +kernel
theorem dX1_leastBoundFlattest_41 : decode cX1_leastBoundFlattest 41 = .ok (.lconst 0, 1) := by decide +kernel
theorem dX1_leastBoundFlattest_42 : decode cX1_leastBoundFlattest 42 = .ok (.lcmp, 1) := by decide +kernel
theorem dX1_leastBoundFlattest_43 : decode cX1_leastBoundFlattest 43 = .ok (.ifCond .le 5, 3) := by decide +kernel
theorem dX1_leastBoundFlattest_46 : decode cX1_leastBoundFlattest 46 = .ok (.iload_n 3, 1) := by decide +kernel
theorem dX1_leastBoundFlattest_47 : decode cX1_leastBoundFlattest 47 = .ok (.istore_n 2, 1) := by decide +kernel
theorem dX1_leastBoundFlattest_48 : decode cX1_leastBoundFlattest 48 = .ok (.iinc 3 1, 3) := by decide +kernel
theorem dX1_leastBoundFlattest_51 : decode cX1_leastBoundFlattest 51 = .ok (.goto (-47), 3) := by decide +kernel
theorem dX1_leastBoundFlattest_54 : decode cX1_leastBoundFlattest 54 = .ok (.iload_n 2, 1) := by decide +kernel
theorem dX1_leastBoundFlattest_55 : decode cX1_leastBoundFlattest 55 = .ok (.ireturn, 1) := by decide +kernel
theorem dX1_reach_0 : decode cX1_reach 0 = .ok (.ldc2_w 114, 3) := by decide +kernel
theorem dX1_reach_3 : decode cX1_reach 3 = .ok (.lstore_n 3, 1) := by decide +kernel
theorem dX1_reach_4 : decode cX1_reach 4 = .ok (.iconst 0, 1) := by decide +kernel
theorem dX1_reach_5 : decode cX1_reach 5 = .ok (.istore 5, 2) := by decide +kernel
theorem dX1_reach_7 : decode cX1_reach 7 = .ok (.iload 5, 2) := by decide +kernel
theorem dX1_reach_9 : decode cX1_reach 9 = .ok (.aload_n 0, 1) := by decide +kernel
theorem dX1_reach_10 : decode cX1_reach 10 = .ok (.getfield 27, 3) := by decide +kernel
theorem dX1_reach_13 : decode cX1_reach 13 = .ok (.if_icmp .ge 41, 3) := by decide +kernel
theorem dX1_reach_16 : decode cX1_reach 16 = .ok (.aload_n 0, 1) := by decide +kernel
theorem dX1_reach_17 : decode cX1_reach 17 = .ok (.iload 5, 2) := by decide +kernel
theorem dX1_reach_19 : decode cX1_reach 19 = .ok (.iload_n 1, 1) := by decide +kernel
theorem dX1_reach_20 : decode cX1_reach 20 = .ok (.iload_n 2, 1) := by decide +kernel
theorem dX1_reach_21 : decode cX1_reach 21 = .ok (.invokevirtual 110, 3) := by decide +kernel
theorem dX1_reach_24 : decode cX1_reach 24 = .ok (.lstore 6, 2) := by decide +kernel
theorem dX1_reach_26 : decode cX1_reach 26 = .ok (.lload 6, 2) := by decide +kernel
theorem dX1_reach_28 : decode cX1_reach 28 = .ok (.lconst 0, 1) := by decide +kernel
theorem dX1_reach_29 : decode cX1_reach 29 = .ok (.lcmp, 1) := by decide +kernel
theorem dX1_reach_30 : decode cX1_reach 30 = .ok (.ifCond .le 18, 3) := by decide +kernel
theorem dX1_reach_33 : decode cX1_reach 33 = .ok (.lload_n 3, 1) := by decide +kernel
theorem dX1_reach_34 : decode cX1_reach 34 = .ok (.aload_n 0, 1) := by decide +kernel
theorem dX1_reach_35 : decode cX1_reach 35 = .ok (.iload 5, 2) := by decide +kernel
theorem dX1_reach_37 : decode cX1_reach 37 = .ok (.iload_n 1, 1) := by decide +kernel
theorem dX1_reach_38 : decode cX1_reach 38 = .ok (.invokevirtual 107, 3) := by decide +kernel
theorem dX1_reach_41 : decode cX1_reach 41 = .ok (.lload 6, 2) := by decide +kernel
theorem dX1_reach_43 : decode cX1_reach 43 = .ok (.ldiv, 1) := by decide +kernel
theorem dX1_reach_44 : decode cX1_reach 44 = .ok (.invokestatic 116, 3) := by decide +kernel
theorem dX1_reach_47 : decode cX1_reach 47 = .ok (.lstore_n 3, 1) := by decide +kernel
theorem dX1_reach_48 : decode cX1_reach 48 = .ok (.iinc 5 1, 3) := by decide +kernel
theorem dX1_reach_51 : decode cX1_reach 51 = .ok (.goto (-44), 3) := by decide +kernel
theorem dX1_reach_54 : decode cX1_reach 54 = .ok (.lload_n 3, 1) := by decide +kernel
theorem dX1_reach_55 : decode cX1_reach 55 = .ok (.l2i, 1) := by decide +kernel
theorem dX1_reach_56 : decode cX1_reach 56 = .ok (.ireturn, 1) := by decide +kernel
theorem dX1_boundAbove_0 : decode cX1_boundAbove 0 = .ok (.aload_n 0, 1) := by decide +kernel
theorem dX1_boundAbove_1 : decode cX1_boundAbove 1 = .ok (.getfield 11, 3) := by decide +kernel
theorem dX1_boundAbove_4 : decode cX1_boundAbove 4 = .ok (.iload_n 1, 1) := by decide +kernel
theorem dX1_boundAbove_5 : decode cX1_boundAbove 5 = .ok (.laload, 1) := by decide +kernel
theorem dX1_boundAbove_6 : decode cX1_boundAbove 6 = .ok (.aload_n 0, 1) := by decide +kernel
theorem dX1_boundAbove_7 : decode cX1_boundAbove 7 = .ok (.getfield 15, 3) := by decide +kernel
theorem dX1_boundAbove_10 : decode cX1_boundAbove 10 = .ok (.iload_n 2, 1) := by decide +kernel
theorem dX1_boundAbove_11 : decode cX1_boundAbove 11 = .ok (.laload, 1) := by decide +kernel
theorem dX1_boundAbove_12 : decode cX1_boundAbove 12 = .ok (.lmul, 1) := by decide +kernel
theorem dX1_boundAbove_13 : decode cX1_boundAbove 13 = .ok (.aload_n 0, 1) := by decide +kernel
theorem dX1_boundAbove_14 : decode cX1_boundAbove 14 = .ok (.getfield 11, 3) := by decide +kernel
theorem dX1_boundAbove_17 : decode cX1_boundAbove 17 = .ok (.iload_n 2, 1) := by decide +kernel
theorem dX1_boundAbove_18 : decode cX1_boundAbove 18 = .ok (.laload, 1) := by decide +kernel
theorem dX1_boundAbove_19 : decode cX1_boundAbove 19 = .ok (.aload_n 0, 1) := by decide +kernel
theorem dX1_boundAbove_20 : decode cX1_boundAbove 20 = .ok (.getfield 15, 3) := by decide +kernel
theorem dX1_boundAbove_23 : decode cX1_boundAbove 23 = .ok (.iload_n 1, 1) := by decide +kernel
theorem dX1_boundAbove_24 : decode cX1_boundAbove 24 = .ok (.laload, 1) := by decide +kernel
theorem dX1_boundAbove_25 : decode cX1_boundAbove 25 = .ok (.lmul, 1) := by decide +kernel
end
section
theorem dX1_boundAbove_26 : decode cX1_boundAbove 26 = .ok (.lsub, 1) := by decide +kernel
theorem dX1_boundAbove_27 : decode cX1_boundAbove 27 = .ok (.lreturn, 1) := by decide +kernel
theorem dX1_slopeBelow_0 : decode cX1_slopeBelow 0 = .ok (.aload_n 0, 1) := by decide +kernel
theorem dX1_slopeBelow_1 : decode cX1_slopeBelow 1 = .ok (.iload_n 2, 1) := by decide +kernel
theorem dX1_slopeBelow_2 : decode cX1_slopeBelow 2 = .ok (.iload_n 3, 1) := by decide +kernel
theorem dX1_slopeBelow_3 : decode cX1_slopeBelow 3 = .ok (.invokevirtual 96, 3) := by decide +kernel
theorem dX1_slopeBelow_6 : decode cX1_slopeBelow 6 = .ok (.aload_n 0, 1) := by decide +kernel
theorem dX1_slopeBelow_7 : decode cX1_slopeBelow 7 = .ok (.getfield 15, 3) := by decide +kernel
theorem dX1_slopeBelow_10 : decode cX1_slopeBelow 10 = .ok (.iload_n 1, 1) := by decide +kernel
theorem dX1_slopeBelow_11 : decode cX1_slopeBelow 11 = .ok (.laload, 1) := by decide +kernel
theorem dX1_slopeBelow_12 : decode cX1_slopeBelow 12 = .ok (.lmul, 1) := by decide +kernel
theorem dX1_slopeBelow_13 : decode cX1_slopeBelow 13 = .ok (.aload_n 0, 1) := by decide +kernel
theorem dX1_slopeBelow_14 : decode cX1_slopeBelow 14 = .ok (.iload_n 1, 1) := by decide +kernel
theorem dX1_slopeBelow_15 : decode cX1_slopeBelow 15 = .ok (.iload_n 3, 1) := by decide +kernel
theorem dX1_slopeBelow_16 : decode cX1_slopeBelow 16 = .ok (.invokevirtual 96, 3) := by decide +kernel
theorem dX1_slopeBelow_19 : decode cX1_slopeBelow 19 = .ok (.aload_n 0, 1) := by decide +kernel
theorem dX1_slopeBelow_20 : decode cX1_slopeBelow 20 = .ok (.getfield 15, 3) := by decide +kernel
theorem dX1_slopeBelow_23 : decode cX1_slopeBelow 23 = .ok (.iload_n 2, 1) := by decide +kernel
theorem dX1_slopeBelow_24 : decode cX1_slopeBelow 24 = .ok (.laload, 1) := by decide +kernel
theorem dX1_slopeBelow_25 : decode cX1_slopeBelow 25 = .ok (.lmul, 1) := by decide +kernel
theorem dX1_slopeBelow_26 : decode cX1_slopeBelow 26 = .ok (.lsub, 1) := by decide +kernel
theorem dX1_slopeBelow_27 : decode cX1_slopeBelow 27 = .ok (.lreturn, 1) := by decide +kernel
theorem dX2_init_0 : decode cX2_init 0 = .ok (.aload_n 0, 1) := by decide +kernel
theorem dX2_init_1 : decode cX2_init 1 = .ok (.invokespecial 3, 3) := by decide +kernel
theorem dX2_init_4 : decode cX2_init 4 = .ok (.aload_n 0, 1) := by decide +kernel
theorem dX2_init_5 : decode cX2_init 5 = .ok (.iconst 4, 1) := by decide +kernel
theorem dX2_init_6 : decode cX2_init 6 = .ok (.newarray .int, 2) := by decide +kernel
theorem dX2_init_8 : decode cX2_init 8 = .ok (.putfield 9, 3) := by decide +kernel
theorem dX2_init_11 : decode cX2_init 11 = .ok (.aload_n 0, 1) := by decide +kernel
theorem dX2_init_12 : decode cX2_init 12 = .ok (.iconst 4, 1) := by decide +kernel
theorem dX2_init_13 : decode cX2_init 13 = .ok (.newarray .boolean, 2) := by decide +kernel
theorem dX2_init_15 : decode cX2_init 15 = .ok (.putfield 15, 3) := by decide +kernel
theorem dX2_init_18 : decode cX2_init 18 = .ok (.aload_n 0, 1) := by decide +kernel
theorem dX2_init_19 : decode cX2_init 19 = .ok (.bipush 40, 2) := by decide +kernel
theorem dX2_init_21 : decode cX2_init 21 = .ok (.newarray .int, 2) := by decide +kernel
theorem dX2_init_23 : decode cX2_init 23 = .ok (.putfield 19, 3) := by decide +kernel
theorem dX2_init_26 : decode cX2_init 26 = .ok (.aload_n 0, 1) := by decide +kernel
theorem dX2_init_27 : decode cX2_init 27 = .ok (.bipush 6, 2) := by decide +kernel
theorem dX2_init_29 : decode cX2_init 29 = .ok (.newarray .int, 2) := by decide +kernel
theorem dX2_init_31 : decode cX2_init 31 = .ok (.putfield 22, 3) := by decide +kernel
theorem dX2_init_34 : decode cX2_init 34 = .ok (.return_, 1) := by decide +kernel
theorem dX2_lookAtAll_0 : decode cX2_lookAtAll 0 = .ok (.aload_n 0, 1) := by decide +kernel
theorem dX2_lookAtAll_1 : decode cX2_lookAtAll 1 = .ok (.iload_n 2, 1) := by decide +kernel
theorem dX2_lookAtAll_2 : decode cX2_lookAtAll 2 = .ok (.putfield 25, 3) := by decide +kernel
theorem dX2_lookAtAll_5 : decode cX2_lookAtAll 5 = .ok (.aload_n 0, 1) := by decide +kernel
theorem dX2_lookAtAll_6 : decode cX2_lookAtAll 6 = .ok (.iconst 0, 1) := by decide +kernel
theorem dX2_lookAtAll_7 : decode cX2_lookAtAll 7 = .ok (.putfield 29, 3) := by decide +kernel
theorem dX2_lookAtAll_10 : decode cX2_lookAtAll 10 = .ok (.aload_n 0, 1) := by decide +kernel
theorem dX2_lookAtAll_11 : decode cX2_lookAtAll 11 = .ok (.iconst 0, 1) := by decide +kernel
theorem dX2_lookAtAll_12 : decode cX2_lookAtAll 12 = .ok (.putfield 32, 3) := by decide +kernel
theorem dX2_lookAtAll_15 : decode cX2_lookAtAll 15 = .ok (.aload_n 0, 1) := by decide +kernel
theorem dX2_lookAtAll_16 : decode cX2_lookAtAll 16 = .ok (.ldc 35, 2) := by decide +kernel
theorem dX2_lookAtAll_18 : decode cX2_lookAtAll 18 = .ok (.putfield 36, 3) := by decide +kernel
theorem dX2_lookAtAll_21 : decode cX2_lookAtAll 21 = .ok (.aload_n 0, 1) := by decide +kernel
theorem dX2_lookAtAll_22 : decode cX2_lookAtAll 22 = .ok (.getfield 19, 3) := by decide +kernel
theorem dX2_lookAtAll_25 : decode cX2_lookAtAll 25 = .ok (.ldc 35, 2) := by decide +kernel
theorem dX2_lookAtAll_27 : decode cX2_lookAtAll 27 = .ok (.invokestatic 39, 3) := by decide +kernel
theorem dX2_lookAtAll_30 : decode cX2_lookAtAll 30 = .ok (.aload_n 0, 1) := by decide +kernel
theorem dX2_lookAtAll_31 : decode cX2_lookAtAll 31 = .ok (.getfield 22, 3) := by decide +kernel
theorem dX2_lookAtAll_34 : decode cX2_lookAtAll 34 = .ok (.ldc 35, 2) := by decide +kernel
theorem dX2_lookAtAll_36 : decode cX2_lookAtAll 36 = .ok (.invokestatic 39, 3) := by decide +kernel
theorem dX2_lookAtAll_39 : decode cX2_lookAtAll 39 = .ok (.aload_n 1, 1) := by decide +kernel
theorem dX2_lookAtAll_40 : decode cX2_lookAtAll 40 = .ok (.invokevirtual 45, 3) := by decide +kernel
theorem dX2_lookAtAll_43 : decode cX2_lookAtAll 43 = .ok (.aload_n 0, 1) := by decide +kernel
theorem dX2_lookAtAll_44 : decode cX2_lookAtAll 44 = .ok (.aload_n 1, 1) := by decide +kernel
theorem dX2_lookAtAll_45 : decode cX2_lookAtAll 45 = .ok (.invokevirtual 50, 3) := by decide +kernel
theorem dX2_lookAtAll_48 : decode cX2_lookAtAll 48 = .ok (.putfield 54, 3) := by decide +kernel
theorem dX2_lookAtAll_51 : decode cX2_lookAtAll 51 = .ok (.iconst 0, 1) := by decide +kernel
theorem dX2_lookAtAll_52 : decode cX2_lookAtAll 52 = .ok (.istore_n 3, 1) := by decide +kernel
theorem dX2_lookAtAll_53 : decode cX2_lookAtAll 53 = .ok (.iload_n 3, 1) := by decide +kernel
theorem dX2_lookAtAll_54 : decode cX2_lookAtAll 54 = .ok (.aload_n 0, 1) := by decide +kernel
theorem dX2_lookAtAll_55 : decode cX2_lookAtAll 55 = .ok (.getfield 54, 3) := by decide +kernel
theorem dX2_lookAtAll_58 : decode cX2_lookAtAll 58 = .ok (.if_icmp .ge 18, 3) := by decide +kernel
theorem dX2_lookAtAll_61 : decode cX2_lookAtAll 61 = .ok (.aload_n 0, 1) := by decide +kernel
theorem dX2_lookAtAll_62 : decode cX2_lookAtAll 62 = .ok (.aload_n 1, 1) := by decide +kernel
theorem dX2_lookAtAll_63 : decode cX2_lookAtAll 63 = .ok (.invokevirtual 57, 3) := by decide +kernel
theorem dX2_lookAtAll_66 : decode cX2_lookAtAll 66 = .ok (.aload_n 1, 1) := by decide +kernel
theorem dX2_lookAtAll_67 : decode cX2_lookAtAll 67 = .ok (.invokevirtual 61, 3) := by decide +kernel
theorem dX2_lookAtAll_70 : decode cX2_lookAtAll 70 = .ok (.iinc 3 1, 3) := by decide +kernel
theorem dX2_lookAtAll_73 : decode cX2_lookAtAll 73 = .ok (.goto (-20), 3) := by decide +kernel
theorem dX2_lookAtAll_76 : decode cX2_lookAtAll 76 = .ok (.return_, 1) := by decide +kernel
theorem dX2_lookAt_0 : decode cX2_lookAt 0 = .ok (.aload_n 1, 1) := by decide +kernel
theorem dX2_lookAt_1 : decode cX2_lookAt 1 = .ok (.iconst 0, 1) := by decide +kernel
theorem dX2_lookAt_2 : decode cX2_lookAt 2 = .ok (.invokevirtual 64, 3) := by decide +kernel
theorem dX2_lookAt_5 : decode cX2_lookAt 5 = .ok (.istore_n 2, 1) := by decide +kernel
theorem dX2_lookAt_6 : decode cX2_lookAt 6 = .ok (.iload_n 2, 1) := by decide +kernel
theorem dX2_lookAt_7 : decode cX2_lookAt 7 = .ok (.ldc 35, 2) := by decide +kernel
theorem dX2_lookAt_9 : decode cX2_lookAt 9 = .ok (.if_icmp .ne 18, 3) := by decide +kernel
theorem dX2_lookAt_12 : decode cX2_lookAt 12 = .ok (.aload_n 0, 1) := by decide +kernel
theorem dX2_lookAt_13 : decode cX2_lookAt 13 = .ok (.aload_n 1, 1) := by decide +kernel
theorem dX2_lookAt_14 : decode cX2_lookAt 14 = .ok (.getfield 68, 3) := by decide +kernel
theorem dX2_lookAt_17 : decode cX2_lookAt 17 = .ok (.aload_n 1, 1) := by decide +kernel
theorem dX2_lookAt_18 : decode cX2_lookAt 18 = .ok (.getfield 71, 3) := by decide +kernel
theorem dX2_lookAt_21 : decode cX2_lookAt 21 = .ok (.invokevirtual 74, 3) := by decide +kernel
theorem dX2_lookAt_24 : decode cX2_lookAt 24 = .ok (.goto 34, 3) := by decide +kernel
theorem dX2_lookAt_27 : decode cX2_lookAt 27 = .ok (.aload_n 1, 1) := by decide +kernel
theorem dX2_lookAt_28 : decode cX2_lookAt 28 = .ok (.iload_n 2, 1) := by decide +kernel
theorem dX2_lookAt_29 : decode cX2_lookAt 29 = .ok (.iconst 1, 1) := by decide +kernel
theorem dX2_lookAt_30 : decode cX2_lookAt 30 = .ok (.iadd, 1) := by decide +kernel
theorem dX2_lookAt_31 : decode cX2_lookAt 31 = .ok (.invokevirtual 64, 3) := by decide +kernel
theorem dX2_lookAt_34 : decode cX2_lookAt 34 = .ok (.ldc 35, 2) := by decide +kernel
theorem dX2_lookAt_36 : decode cX2_lookAt 36 = .ok (.if_icmp .ne 22, 3) := by decide +kernel
theorem dX2_lookAt_39 : decode cX2_lookAt 39 = .ok (.aload_n 0, 1) := by decide +kernel
theorem dX2_lookAt_40 : decode cX2_lookAt 40 = .ok (.getfield 22, 3) := by decide +kernel
theorem dX2_lookAt_43 : decode cX2_lookAt 43 = .ok (.iload_n 2, 1) := by decide +kernel
theorem dX2_lookAt_44 : decode cX2_lookAt 44 = .ok (.aload_n 0, 1) := by decide +kernel
theorem dX2_lookAt_45 : decode cX2_lookAt 45 = .ok (.getfield 22, 3) := by decide +kernel
theorem dX2_lookAt_48 : decode cX2_lookAt 48 = .ok (.iload_n 2, 1) := by decide +kernel
theorem dX2_lookAt_49 : decode cX2_lookAt 49 = .ok (.iaload, 1) := by decide +kernel
theorem dX2_lookAt_50 : decode cX2_lookAt 50 = .ok (.aload_n 1, 1) := by decide +kernel
theorem dX2_lookAt_51 : decode cX2_lookAt 51 = .ok (.getfield 71, 3) := by decide +kernel
theorem dX2_lookAt_54 : decode cX2_lookAt 54 = .ok (.invokestatic 77, 3) := by decide +kernel
theorem dX2_lookAt_57 : decode cX2_lookAt 57 = .ok (.iastore, 1) := by decide +kernel
theorem dX2_lookAt_58 : decode cX2_lookAt 58 = .ok (.return_, 1) := by decide +kernel
theorem dX2_noteFitting_0 : decode cX2_noteFitting 0 = .ok (.aload_n 0, 1) := by decide +kernel
theorem dX2_noteFitting_1 : decode cX2_noteFitting 1 = .ok (.dup, 1) := by decide +kernel
theorem dX2_noteFitting_2 : decode cX2_noteFitting 2 = .ok (.getfield 29, 3) := by decide +kernel
theorem dX2_noteFitting_5 : decode cX2_noteFitting 5 = .ok (.iconst 1, 1) := by decide +kernel
theorem dX2_noteFitting_6 : decode cX2_noteFitting 6 = .ok (.iadd, 1) := by decide +kernel
theorem dX2_noteFitting_7 : decode cX2_noteFitting 7 = .ok (.putfield 29, 3) := by decide +kernel
theorem dX2_noteFitting_10 : decode cX2_noteFitting 10 = .ok (.iconst 0, 1) := by decide +kernel
theorem dX2_noteFitting_11 : decode cX2_noteFitting 11 = .ok (.istore_n 3, 1) := by decide +kernel
theorem dX2_noteFitting_12 : decode cX2_noteFitting 12 = .ok (.iload_n 3, 1) := by decide +kernel
theorem dX2_noteFitting_13 : decode cX2_noteFitting 13 = .ok (.aload_n 0, 1) := by decide +kernel
theorem dX2_noteFitting_14 : decode cX2_noteFitting 14 = .ok (.getfield 25, 3) := by decide +kernel
theorem dX2_noteFitting_17 : decode cX2_noteFitting 17 = .ok (.if_icmp .ge 37, 3) := by decide +kernel
theorem dX2_noteFitting_20 : decode cX2_noteFitting 20 = .ok (.iload_n 3, 1) := by decide +kernel
theorem dX2_noteFitting_21 : decode cX2_noteFitting 21 = .ok (.bipush 10, 2) := by decide +kernel
theorem dX2_noteFitting_23 : decode cX2_noteFitting 23 = .ok (.imul, 1) := by decide +kernel
theorem dX2_noteFitting_24 : decode cX2_noteFitting 24 = .ok (.aload_n 1, 1) := by decide +kernel
theorem dX2_noteFitting_25 : decode cX2_noteFitting 25 = .ok (.iload_n 3, 1) := by decide +kernel
theorem dX2_noteFitting_26 : decode cX2_noteFitting 26 = .ok (.iaload, 1) := by decide +kernel
theorem dX2_noteFitting_27 : decode cX2_noteFitting 27 = .ok (.iadd, 1) := by decide +kernel
theorem dX2_noteFitting_28 : decode cX2_noteFitting 28 = .ok (.istore 4, 2) := by decide +kernel
theorem dX2_noteFitting_30 : decode cX2_noteFitting 30 = .ok (.aload_n 0, 1) := by decide +kernel
theorem dX2_noteFitting_31 : decode cX2_noteFitting 31 = .ok (.getfield 19, 3) := by decide +kernel
theorem dX2_noteFitting_34 : decode cX2_noteFitting 34 = .ok (.iload 4, 2) := by decide +kernel
theorem dX2_noteFitting_36 : decode cX2_noteFitting 36 = .ok (.aload_n 0, 1) := by decide +kernel
theorem dX2_noteFitting_37 : decode cX2_noteFitting 37 = .ok (.getfield 19, 3) := by decide +kernel
theorem dX2_noteFitting_40 : decode cX2_noteFitting 40 = .ok (.iload 4, 2) := by decide +kernel
theorem dX2_noteFitting_42 : decode cX2_noteFitting 42 = .ok (.iaload, 1) := by decide +kernel
theorem dX2_noteFitting_43 : decode cX2_noteFitting 43 = .ok (.iload_n 2, 1) := by decide +kernel
theorem dX2_noteFitting_44 : decode cX2_noteFitting 44 = .ok (.invokestatic 77, 3) := by decide +kernel
theorem dX2_noteFitting_47 : decode cX2_noteFitting 47 = .ok (.iastore, 1) := by decide +kernel
theorem dX2_noteFitting_48 : decode cX2_noteFitting 48 = .ok (.iinc 3 1, 3) := by decide +kernel
theorem dX2_noteFitting_51 : decode cX2_noteFitting 51 = .ok (.goto (-39), 3) := by decide +kernel
theorem dX2_noteFitting_54 : decode cX2_noteFitting 54 = .ok (.iload_n 2, 1) := by decide +kernel
theorem dX2_noteFitting_55 : decode cX2_noteFitting 55 = .ok (.aload_n 0, 1) := by decide +kernel
theorem dX2_noteFitting_56 : decode cX2_noteFitting 56 = .ok (.getfield 36, 3) := by decide +kernel
theorem dX2_noteFitting_59 : decode cX2_noteFitting 59 = .ok (.if_icmp .le 12, 3) := by decide +kernel
theorem dX2_noteFitting_62 : decode cX2_noteFitting 62 = .ok (.aload_n 0, 1) := by decide +kernel
theorem dX2_noteFitting_63 : decode cX2_noteFitting 63 = .ok (.aload_n 1, 1) := by decide +kernel
theorem dX2_noteFitting_64 : decode cX2_noteFitting 64 = .ok (.iload_n 2, 1) := by decide +kernel
theorem dX2_noteFitting_65 : decode cX2_noteFitting 65 = .ok (.invokevirtual 83, 3) := by decide +kernel
theorem dX2_noteFitting_68 : decode cX2_noteFitting 68 = .ok (.goto 16, 3) := by decide +kernel
theorem dX2_noteFitting_71 : decode cX2_noteFitting 71 = .ok (.iload_n 2, 1) := by decide +kernel
theorem dX2_noteFitting_72 : decode cX2_noteFitting 72 = .ok (.aload_n 0, 1) := by decide +kernel
theorem dX2_noteFitting_73 : decode cX2_noteFitting 73 = .ok (.getfield 36, 3) := by decide +kernel
theorem dX2_noteFitting_76 : decode cX2_noteFitting 76 = .ok (.if_icmp .ne 8, 3) := by decide +kernel
theorem dX2_noteFitting_79 : decode cX2_noteFitting 79 = .ok (.aload_n 0, 1) := by decide +kernel
theorem dX2_noteFitting_80 : decode cX2_noteFitting 80 = .ok (.aload_n 1, 1) := by decide +kernel
theorem dX2_noteFitting_81 : decode cX2_noteFitting 81 = .ok (.invokevirtual 86, 3) := by decide +kernel
theorem dX2_noteFitting_84 : decode cX2_noteFitting 84 = .ok (.return_, 1) := by decide +kernel
theorem dX2_noteBetter_0 : decode cX2_noteBetter 0 = .ok (.aload_n 0, 1) := by decide +kernel
theorem dX2_noteBetter_1 : decode cX2_noteBetter 1 = .ok (.iload_n 2, 1) := by decide +kernel
theorem dX2_noteBetter_2 : decode cX2_noteBetter 2 = .ok (.putfield 36, 3) := by decide +kernel
theorem dX2_noteBetter_5 : decode cX2_noteBetter 5 = .ok (.aload_n 0, 1) := by decide +kernel
theorem dX2_noteBetter_6 : decode cX2_noteBetter 6 = .ok (.iconst 1, 1) := by decide +kernel
theorem dX2_noteBetter_7 : decode cX2_noteBetter 7 = .ok (.putfield 32, 3) := by decide +kernel
theorem dX2_noteBetter_10 : decode cX2_noteBetter 10 = .ok (.iconst 0, 1) := by decide +kernel
theorem dX2_noteBetter_11 : decode cX2_noteBetter 11 = .ok (.istore_n 3, 1) := by decide +kernel
theorem dX2_noteBetter_12 : decode cX2_noteBetter 12 = .ok (.iload_n 3, 1) := by decide +kernel
theorem dX2_noteBetter_13 : decode cX2_noteBetter 13 = .ok (.aload_n 0, 1) := by decide +kernel
theorem dX2_noteBetter_14 : decode cX2_noteBetter 14 = .ok (.getfield 25, 3) := by decide +kernel
theorem dX2_noteBetter_17 : decode cX2_noteBetter 17 = .ok (.if_icmp .ge 25, 3) := by decide +kernel
theorem dX2_noteBetter_20 : decode cX2_noteBetter 20 = .ok (.aload_n 0, 1) := by decide +kernel
theorem dX2_noteBetter_21 : decode cX2_noteBetter 21 = .ok (.getfield 9, 3) := by decide +kernel
theorem dX2_noteBetter_24 : decode cX2_noteBetter 24 = .ok (.iload_n 3, 1) := by decide +kernel
theorem dX2_noteBetter_25 : decode cX2_noteBetter 25 = .ok (.aload_n 1, 1) := by decide +kernel
theorem dX2_noteBetter_26 : decode cX2_noteBetter 26 = .ok (.iload_n 3, 1) := by decide +kernel
theorem dX2_noteBetter_27 : decode cX2_noteBetter 27 = .ok (.iaload, 1) := by decide +kernel
theorem dX2_noteBetter_28 : decode cX2_noteBetter 28 = .ok (.iastore, 1) := by decide +kernel
theorem dX2_noteBetter_29 : decode cX2_noteBetter 29 = .ok (.aload_n 0, 1) := by decide +kernel
theorem dX2_noteBetter_30 : decode cX2_noteBetter 30 = .ok (.getfield 15, 3) := by decide +kernel
theorem dX2_noteBetter_33 : decode cX2_noteBetter 33 = .ok (.iload_n 3, 1) := by decide +kernel
theorem dX2_noteBetter_34 : decode cX2_noteBetter 34 = .ok (.iconst 1, 1) := by decide +kernel
theorem dX2_noteBetter_35 : decode cX2_noteBetter 35 = .ok (.bastore, 1) := by decide +kernel
theorem dX2_noteBetter_36 : decode cX2_noteBetter 36 = .ok (.iinc 3 1, 3) := by decide +kernel
theorem dX2_noteBetter_39 : decode cX2_noteBetter 39 = .ok (.goto (-27), 3) := by decide +kernel
theorem dX2_noteBetter_42 : decode cX2_noteBetter 42 = .ok (.return_, 1) := by decide +kernel
theorem dX2_noteEqual_0 : decode cX2_noteEqual 0 = .ok (.aload_n 0, 1) := by decide +kernel
theorem dX2_noteEqual_1 : decode cX2_noteEqual 1 = .ok (.dup, 1) := by decide +kernel
theorem dX2_noteEqual_2 : decode cX2_noteEqual 2 = .ok (.getfield 32, 3) := by decide +kernel
theorem dX2_noteEqual_5 : decode cX2_noteEqual 5 = .ok (.iconst 1, 1) := by decide +kernel
theorem dX2_noteEqual_6 : decode cX2_noteEqual 6 = .ok (.iadd, 1) := by decide +kernel
theorem dX2_noteEqual_7 : decode cX2_noteEqual 7 = .ok (.putfield 32, 3) := by decide +kernel
theorem dX2_noteEqual_10 : decode cX2_noteEqual 10 = .ok (.iconst 0, 1) := by decide +kernel
theorem dX2_noteEqual_11 : decode cX2_noteEqual 11 = .ok (.istore_n 2, 1) := by decide +kernel
theorem dX2_noteEqual_12 : decode cX2_noteEqual 12 = .ok (.iload_n 2, 1) := by decide +kernel
theorem dX2_noteEqual_13 : decode cX2_noteEqual 13 = .ok (.aload_n 0, 1) := by decide +kernel
theorem dX2_noteEqual_14 : decode cX2_noteEqual 14 = .ok (.getfield 25, 3) := by decide +kernel
theorem dX2_noteEqual_17 : decode cX2_noteEqual 17 = .ok (.if_icmp .ge 28, 3) := by decide +kernel
theorem dX2_noteEqual_20 : decode cX2_noteEqual 20 = .ok (.aload_n 1, 1) := by decide +kernel
theorem dX2_noteEqual_21 : decode cX2_noteEqual 21 = .ok (.iload_n 2, 1) := by decide +kernel
theorem dX2_noteEqual_22 : decode cX2_noteEqual 22 = .ok (.iaload, 1) := by decide +kernel
theorem dX2_noteEqual_23 : decode cX2_noteEqual 23 = .ok (.aload_n 0, 1) := by decide +kernel
theorem dX2_noteEqual_24 : decode cX2_noteEqual 24 = .ok (.getfield 9, 3) := by decide +kernel
theorem dX2_noteEqual_27 : decode cX2_noteEqual 27 = .ok (.iload_n 2, 1) := by decide +kernel
theorem dX2_noteEqual_28 : decode cX2_noteEqual 28 = .ok (.iaload, 1) := by decide +kernel
theorem dX2_noteEqual_29 : decode cX2_noteEqual 29 = .ok (.if_icmp .eq 10, 3) := by decide +kernel
theorem dX2_noteEqual_32 : decode cX2_noteEqual 32 = .ok (.aload_n 0, 1) := by decide +kernel
theorem dX2_noteEqual_33 : decode cX2_noteEqual 33 = .ok (.getfield 15, 3) := by decide +kernel
theorem dX2_noteEqual_36 : decode cX2_noteEqual 36 = .ok (.iload_n 2, 1) := by decide +kernel
theorem dX2_noteEqual_37 : decode cX2_noteEqual 37 = .ok (.iconst 0, 1) := by decide +kernel
theorem dX2_noteEqual_38 : decode cX2_noteEqual 38 = .ok (.bastore, 1) := by decide +kernel
theorem dX2_noteEqual_39 : decode cX2_noteEqual 39 = .ok (.iinc 2 1, 3) := by decide +kernel
theorem dX2_noteEqual_42 : decode cX2_noteEqual 42 = .ok (.goto (-30), 3) := by decide +kernel
theorem dX2_noteEqual_45 : decode cX2_noteEqual 45 = .ok (.return_, 1) := by decide +kernel
theorem dX2_greatestWith_0 : decode cX2_greatestWith 0 = .ok (.aload_n 0, 1) := by decide +kernel
theorem dX2_greatestWith_1 : decode cX2_greatestWith 1 = .ok (.getfield 19, 3) := by decide +kernel
theorem dX2_greatestWith_4 : decode cX2_greatestWith 4 = .ok (.iload_n 1, 1) := by decide +kernel
theorem dX2_greatestWith_5 : decode cX2_greatestWith 5 = .ok (.bipush 10, 2) := by decide +kernel
theorem dX2_greatestWith_7 : decode cX2_greatestWith 7 = .ok (.imul, 1) := by decide +kernel
theorem dX2_greatestWith_8 : decode cX2_greatestWith 8 = .ok (.iload_n 2, 1) := by decide +kernel
theorem dX2_greatestWith_9 : decode cX2_greatestWith 9 = .ok (.iadd, 1) := by decide +kernel
theorem dX2_greatestWith_10 : decode cX2_greatestWith 10 = .ok (.iaload, 1) := by decide +kernel
theorem dX2_greatestWith_11 : decode cX2_greatestWith 11 = .ok (.ireturn, 1) := by decide +kernel
theorem dX2_gainWithout_0 : decode cX2_gainWithout 0 = .ok (.iconst 0, 1) := by decide +kernel
theorem dX2_gainWithout_1 : decode cX2_gainWithout 1 = .ok (.aload_n 0, 1) := by decide +kernel
theorem dX2_gainWithout_2 : decode cX2_gainWithout 2 = .ok (.getfield 22, 3) := by decide +kernel
theorem dX2_gainWithout_5 : decode cX2_gainWithout 5 = .ok (.iload_n 1, 1) := by decide +kernel
theorem dX2_gainWithout_6 : decode cX2_gainWithout 6 = .ok (.iaload, 1) := by decide +kernel
theorem dX2_gainWithout_7 : decode cX2_gainWithout 7 = .ok (.aload_n 0, 1) := by decide +kernel
theorem dX2_gainWithout_8 : decode cX2_gainWithout 8 = .ok (.getfield 36, 3) := by decide +kernel
theorem dX2_gainWithout_11 : decode cX2_gainWithout 11 = .ok (.isub, 1) := by decide +kernel
theorem dX2_gainWithout_12 : decode cX2_gainWithout 12 = .ok (.invokestatic 77, 3) := by decide +kernel
theorem dX2_gainWithout_15 : decode cX2_gainWithout 15 = .ok (.ireturn, 1) := by decide +kernel
theorem dX2_rulesAhead_0 : decode cX2_rulesAhead 0 = .ok (.aload_n 0, 1) := by decide +kernel
theorem dX2_rulesAhead_1 : decode cX2_rulesAhead 1 = .ok (.iload_n 1, 1) := by decide +kernel
theorem dX2_rulesAhead_2 : decode cX2_rulesAhead 2 = .ok (.invokevirtual 90, 3) := by decide +kernel
theorem dX2_rulesAhead_5 : decode cX2_rulesAhead 5 = .ok (.istore_n 3, 1) := by decide +kernel
theorem dX2_rulesAhead_6 : decode cX2_rulesAhead 6 = .ok (.iconst 0, 1) := by decide +kernel
theorem dX2_rulesAhead_7 : decode cX2_rulesAhead 7 = .ok (.istore 4, 2) := by decide +kernel
theorem dX2_rulesAhead_9 : decode cX2_rulesAhead 9 = .ok (.iconst 0, 1) := by decide +kernel
theorem dX2_rulesAhead_10 : decode cX2_rulesAhead 10 = .ok (.istore 5, 2) := by decide +kernel
theorem dX2_rulesAhead_12 : decode cX2_rulesAhead 12 = .ok (.iload 5, 2) := by decide +kernel
theorem dX2_rulesAhead_14 : decode cX2_rulesAhead 14 = .ok (.iload_n 2, 1) := by decide +kernel
theorem dX2_rulesAhead_15 : decode cX2_rulesAhead 15 = .ok (.if_icmp .ge 38, 3) := by decide +kernel
theorem dX2_rulesAhead_18 : decode cX2_rulesAhead 18 = .ok (.aload_n 0, 1) := by decide +kernel
theorem dX2_rulesAhead_19 : decode cX2_rulesAhead 19 = .ok (.iload 5, 2) := by decide +kernel
theorem dX2_rulesAhead_21 : decode cX2_rulesAhead 21 = .ok (.invokevirtual 90, 3) := by decide +kernel
theorem dX2_rulesAhead_24 : decode cX2_rulesAhead 24 = .ok (.istore 6, 2) := by decide +kernel
theorem dX2_rulesAhead_26 : decode cX2_rulesAhead 26 = .ok (.iload 6, 2) := by decide +kernel
theorem dX2_rulesAhead_28 : decode cX2_rulesAhead 28 = .ok (.iload_n 3, 1) := by decide +kernel
theorem dX2_rulesAhead_29 : decode cX2_rulesAhead 29 = .ok (.if_icmp .gt 15, 3) := by decide +kernel
theorem dX2_rulesAhead_32 : decode cX2_rulesAhead 32 = .ok (.iload 6, 2) := by decide +kernel
theorem dX2_rulesAhead_34 : decode cX2_rulesAhead 34 = .ok (.iload_n 3, 1) := by decide +kernel
theorem dX2_rulesAhead_35 : decode cX2_rulesAhead 35 = .ok (.if_icmp .ne 12, 3) := by decide +kernel
theorem dX2_rulesAhead_38 : decode cX2_rulesAhead 38 = .ok (.iload 5, 2) := by decide +kernel
theorem dX2_rulesAhead_40 : decode cX2_rulesAhead 40 = .ok (.iload_n 1, 1) := by decide +kernel
theorem dX2_rulesAhead_41 : decode cX2_rulesAhead 41 = .ok (.if_icmp .ge 6, 3) := by decide +kernel
theorem dX2_rulesAhead_44 : decode cX2_rulesAhead 44 = .ok (.iinc 4 1, 3) := by decide +kernel
theorem dX2_rulesAhead_47 : decode cX2_rulesAhead 47 = .ok (.iinc 5 1, 3) := by decide +kernel
theorem dX2_rulesAhead_50 : decode cX2_rulesAhead 50 = .ok (.goto (-38), 3) := by decide +kernel
theorem dX2_rulesAhead_53 : decode cX2_rulesAhead 53 = .ok (.iload 4, 2) := by decide +kernel
theorem dX2_rulesAhead_55 : decode cX2_rulesAhead 55 = .ok (.ireturn, 1) := by decide +kernel
theorem dX2_spanBottom_0 : decode cX2_spanBottom 0 = .ok (.aload_n 0, 1) := by decide +kernel
theorem dX2_spanBottom_1 : decode cX2_spanBottom 1 = .ok (.getfield 9, 3) := by decide +kernel
theorem dX2_spanBottom_4 : decode cX2_spanBottom 4 = .ok (.iload_n 1, 1) := by decide +kernel
theorem dX2_spanBottom_5 : decode cX2_spanBottom 5 = .ok (.iaload, 1) := by decide +kernel
theorem dX2_spanBottom_6 : decode cX2_spanBottom 6 = .ok (.istore_n 3, 1) := by decide +kernel
theorem dX2_spanBottom_7 : decode cX2_spanBottom 7 = .ok (.ldc 35, 2) := by decide +kernel
theorem dX2_spanBottom_9 : decode cX2_spanBottom 9 = .ok (.istore 4, 2) := by decide +kernel
theorem dX2_spanBottom_11 : decode cX2_spanBottom 11 = .ok (.iconst 0, 1) := by decide +kernel
theorem dX2_spanBottom_12 : decode cX2_spanBottom 12 = .ok (.istore 5, 2) := by decide +kernel
theorem dX2_spanBottom_14 : decode cX2_spanBottom 14 = .ok (.iload 5, 2) := by decide +kernel
theorem dX2_spanBottom_16 : decode cX2_spanBottom 16 = .ok (.iload_n 3, 1) := by decide +kernel
theorem dX2_spanBottom_17 : decode cX2_spanBottom 17 = .ok (.if_icmp .ge 57, 3) := by decide +kernel
theorem dX2_spanBottom_20 : decode cX2_spanBottom 20 = .ok (.aload_n 0, 1) := by decide +kernel
theorem dX2_spanBottom_21 : decode cX2_spanBottom 21 = .ok (.iload_n 1, 1) := by decide +kernel
theorem dX2_spanBottom_22 : decode cX2_spanBottom 22 = .ok (.iload 5, 2) := by decide +kernel
theorem dX2_spanBottom_24 : decode cX2_spanBottom 24 = .ok (.invokevirtual 93, 3) := by decide +kernel
theorem dX2_spanBottom_27 : decode cX2_spanBottom 27 = .ok (.ldc 35, 2) := by decide +kernel
theorem dX2_spanBottom_29 : decode cX2_spanBottom 29 = .ok (.if_icmp .eq 39, 3) := by decide +kernel
theorem dX2_spanBottom_32 : decode cX2_spanBottom 32 = .ok (.aload_n 0, 1) := by decide +kernel
theorem dX2_spanBottom_33 : decode cX2_spanBottom 33 = .ok (.iload_n 1, 1) := by decide +kernel
theorem dX2_spanBottom_34 : decode cX2_spanBottom 34 = .ok (.iload 5, 2) := by decide +kernel
theorem dX2_spanBottom_36 : decode cX2_spanBottom 36 = .ok (.iload_n 2, 1) := by decide +kernel
theorem dX2_spanBottom_37 : decode cX2_spanBottom 37 = .ok (.invokevirtual 96, 3) := by decide +kernel
theorem dX2_spanBottom_40 : decode cX2_spanBottom 40 = .ok (.aload_n 0, 1) := by decide +kernel
theorem dX2_spanBottom_41 : decode cX2_spanBottom 41 = .ok (.iload_n 1, 1) := by decide +kernel
theorem dX2_spanBottom_42 : decode cX2_spanBottom 42 = .ok (.iload_n 3, 1) := by decide +kernel
theorem dX2_spanBottom_43 : decode cX2_spanBottom 43 = .ok (.iload_n 2, 1) := by decide +kernel
theorem dX2_spanBottom_44 : decode cX2_spanBottom 44 = .ok (.invokevirtual 96, 3) := by decide +kernel
theorem dX2_spanBottom_47 : decode cX2_spanBottom 47 = .ok (.isub, 1) := by decide +kernel
theorem dX2_spanBottom_48 : decode cX2_spanBottom 48 = .ok (.istore 6, 2) := by decide +kernel
theorem dX2_spanBottom_50 : decode cX2_spanBottom 50 = .ok (.iload 4, 2) := by decide +kernel
theorem dX2_spanBottom_52 : decode cX2_spanBottom 52 = .ok (.iload 6, 2) := by decide +kernel
theorem dX2_spanBottom_54 : decode cX2_spanBottom 54 = .ok (.ineg, 1) := by decide +kernel
theorem dX2_spanBottom_55 : decode cX2_spanBottom 55 = .ok (.iload_n 3, 1) := by decide +kernel
theorem dX2_spanBottom_56 : decode cX2_spanBottom 56 = .ok (.iload 5, 2) := by decide +kernel
theorem dX2_spanBottom_58 : decode cX2_spanBottom 58 = .ok (.isub, 1) := by decide +kernel
theorem dX2_spanBottom_59 : decode cX2_spanBottom 59 = .ok (.invokestatic 100, 3) := by decide +kernel
theorem dX2_spanBottom_62 : decode cX2_spanBottom 62 = .ok (.ineg, 1) := by decide +kernel
theorem dX2_spanBottom_63 : decode cX2_spanBottom 63 = .ok (.invokestatic 77, 3) := by decide +kernel
theorem dX2_spanBottom_66 : decode cX2_spanBottom 66 = .ok (.istore 4, 2) := by decide +kernel
theorem dX2_spanBottom_68 : decode cX2_spanBottom 68 = .ok (.iinc 5 1, 3) := by decide +kernel
theorem dX2_spanBottom_71 : decode cX2_spanBottom 71 = .ok (.goto (-57), 3) := by decide +kernel
theorem dX2_spanBottom_74 : decode cX2_spanBottom 74 = .ok (.iload 4, 2) := by decide +kernel
theorem dX2_spanBottom_76 : decode cX2_spanBottom 76 = .ok (.ireturn, 1) := by decide +kernel
theorem dX2_spanTop_0 : decode cX2_spanTop 0 = .ok (.aload_n 0, 1) := by decide +kernel
theorem dX2_spanTop_1 : decode cX2_spanTop 1 = .ok (.getfield 9, 3) := by decide +kernel
theorem dX2_spanTop_4 : decode cX2_spanTop 4 = .ok (.iload_n 1, 1) := by decide +kernel
theorem dX2_spanTop_5 : decode cX2_spanTop 5 = .ok (.iaload, 1) := by decide +kernel
theorem dX2_spanTop_6 : decode cX2_spanTop 6 = .ok (.istore_n 3, 1) := by decide +kernel
theorem dX2_spanTop_7 : decode cX2_spanTop 7 = .ok (.ldc 35, 2) := by decide +kernel
theorem dX2_spanTop_9 : decode cX2_spanTop 9 = .ok (.istore 4, 2) := by decide +kernel
theorem dX2_spanTop_11 : decode cX2_spanTop 11 = .ok (.iload_n 3, 1) := by decide +kernel
theorem dX2_spanTop_12 : decode cX2_spanTop 12 = .ok (.iconst 1, 1) := by decide +kernel
theorem dX2_spanTop_13 : decode cX2_spanTop 13 = .ok (.iadd, 1) := by decide +kernel
theorem dX2_spanTop_14 : decode cX2_spanTop 14 = .ok (.istore 5, 2) := by decide +kernel
theorem dX2_spanTop_16 : decode cX2_spanTop 16 = .ok (.iload 5, 2) := by decide +kernel
theorem dX2_spanTop_18 : decode cX2_spanTop 18 = .ok (.bipush 10, 2) := by decide +kernel
theorem dX2_spanTop_20 : decode cX2_spanTop 20 = .ok (.if_icmp .ge 71, 3) := by decide +kernel
theorem dX2_spanTop_23 : decode cX2_spanTop 23 = .ok (.aload_n 0, 1) := by decide +kernel
theorem dX2_spanTop_24 : decode cX2_spanTop 24 = .ok (.iload_n 1, 1) := by decide +kernel
theorem dX2_spanTop_25 : decode cX2_spanTop 25 = .ok (.iload 5, 2) := by decide +kernel
theorem dX2_spanTop_27 : decode cX2_spanTop 27 = .ok (.invokevirtual 93, 3) := by decide +kernel
theorem dX2_spanTop_30 : decode cX2_spanTop 30 = .ok (.ldc 35, 2) := by decide +kernel
theorem dX2_spanTop_32 : decode cX2_spanTop 32 = .ok (.if_icmp .eq 53, 3) := by decide +kernel
theorem dX2_spanTop_35 : decode cX2_spanTop 35 = .ok (.aload_n 0, 1) := by decide +kernel
theorem dX2_spanTop_36 : decode cX2_spanTop 36 = .ok (.iload_n 1, 1) := by decide +kernel
theorem dX2_spanTop_37 : decode cX2_spanTop 37 = .ok (.iload_n 3, 1) := by decide +kernel
theorem dX2_spanTop_38 : decode cX2_spanTop 38 = .ok (.iload_n 2, 1) := by decide +kernel
theorem dX2_spanTop_39 : decode cX2_spanTop 39 = .ok (.invokevirtual 96, 3) := by decide +kernel
theorem dX2_spanTop_42 : decode cX2_spanTop 42 = .ok (.aload_n 0, 1) := by decide +kernel
theorem dX2_spanTop_43 : decode cX2_spanTop 43 = .ok (.iload_n 1, 1) := by decide +kernel
theorem dX2_spanTop_44 : decode cX2_spanTop 44 = .ok (.iload 5, 2) := by decide +kernel
theorem dX2_spanTop_46 : decode cX2_spanTop 46 = .ok (.iload_n 2, 1) := by decide +kernel
theorem dX2_spanTop_47 : decode cX2_spanTop 47 = .ok (.invokevirtual 96, 3) := by decide +kernel
theorem dX2_spanTop_50 : decode cX2_spanTop 50 = .ok (.isub, 1) := by decide +kernel
theorem dX2_spanTop_51 : decode cX2_spanTop 51 = .ok (.istore 6, 2) := by decide +kernel
theorem dX2_spanTop_53 : decode cX2_spanTop 53 = .ok (.iload 6, 2) := by decide +kernel
theorem dX2_spanTop_55 : decode cX2_spanTop 55 = .ok (.iload 5, 2) := by decide +kernel
theorem dX2_spanTop_57 : decode cX2_spanTop 57 = .ok (.iload_n 3, 1) := by decide +kernel
theorem dX2_spanTop_58 : decode cX2_spanTop 58 = .ok (.isub, 1) := by decide +kernel
theorem dX2_spanTop_59 : decode cX2_spanTop 59 = .ok (.invokestatic 100, 3) := by decide +kernel
theorem dX2_spanTop_62 : decode cX2_spanTop 62 = .ok (.istore 7, 2) := by decide +kernel
theorem dX2_spanTop_64 : decode cX2_spanTop 64 = .ok (.iload 4, 2) := by decide +kernel
theorem dX2_spanTop_66 : decode cX2_spanTop 66 = .ok (.ldc 35, 2) := by decide +kernel
theorem dX2_spanTop_68 : decode cX2_spanTop 68 = .ok (.if_icmp .ne 8, 3) := by decide +kernel
theorem dX2_spanTop_71 : decode cX2_spanTop 71 = .ok (.iload 7, 2) := by decide +kernel
theorem dX2_spanTop_73 : decode cX2_spanTop 73 = .ok (.goto 10, 3) := by decide +kernel
theorem dX2_spanTop_76 : decode cX2_spanTop 76 = .ok (.iload 4, 2) := by decide +kernel
theorem dX2_spanTop_78 : decode cX2_spanTop 78 = .ok (.iload 7, 2) := by decide +kernel
theorem dX2_spanTop_80 : decode cX2_spanTop 80 = .ok (.invokestatic 103, 3) := by decide +kernel
theorem dX2_spanTop_83 : decode cX2_spanTop 83 = .ok (.istore 4, 2) := by decide +kernel
theorem dX2_spanTop_85 : decode cX2_spanTop 85 = .ok (.iinc 5 1, 3) := by decide +kernel
theorem dX2_spanTop_88 : decode cX2_spanTop 88 = .ok (.goto (-72), 3) := by decide +kernel
theorem dX2_spanTop_91 : decode cX2_spanTop 91 = .ok (.iload 4, 2) := by decide +kernel
theorem dX2_spanTop_93 : decode cX2_spanTop 93 = .ok (.ireturn, 1) := by decide +kernel
theorem dX2_restWith_0 : decode cX2_restWith 0 = .ok (.aload_n 0, 1) := by decide +kernel
theorem dX2_restWith_1 : decode cX2_restWith 1 = .ok (.iload_n 1, 1) := by decide +kernel
theorem dX2_restWith_2 : decode cX2_restWith 2 = .ok (.iload_n 2, 1) := by decide +kernel
theorem dX2_restWith_3 : decode cX2_restWith 3 = .ok (.invokevirtual 93, 3) := by decide +kernel
theorem dX2_restWith_6 : decode cX2_restWith 6 = .ok (.iload_n 2, 1) := by decide +kernel
theorem dX2_restWith_7 : decode cX2_restWith 7 = .ok (.iload_n 3, 1) := by decide +kernel
theorem dX2_restWith_8 : decode cX2_restWith 8 = .ok (.imul, 1) := by decide +kernel
theorem dX2_restWith_9 : decode cX2_restWith 9 = .ok (.isub, 1) := by decide +kernel
theorem dX2_restWith_10 : decode cX2_restWith 10 = .ok (.ireturn, 1) := by decide +kernel
theorem dX3_init_0 : decode cX3_init 0 = .ok (.aload_n 0, 1) := by decide +kernel
theorem dX3_init_1 : decode cX3_init 1 = .ok (.invokespecial 3, 3) := by decide +kernel
theorem dX3_init_4 : decode cX3_init 4 = .ok (.aload_n 0, 1) := by decide +kernel
theorem dX3_init_5 : decode cX3_init 5 = .ok (.bipush 6, 2) := by decide +kernel
theorem dX3_init_7 : decode cX3_init 7 = .ok (.newarray .int, 2) := by decide +kernel
theorem dX3_init_9 : decode cX3_init 9 = .ok (.putfield 9, 3) := by decide +kernel
theorem dX3_init_12 : decode cX3_init 12 = .ok (.aload_n 0, 1) := by decide +kernel
theorem dX3_init_13 : decode cX3_init 13 = .ok (.iconst 4, 1) := by decide +kernel
theorem dX3_init_14 : decode cX3_init 14 = .ok (.newarray .int, 2) := by decide +kernel
theorem dX3_init_16 : decode cX3_init 16 = .ok (.putfield 15, 3) := by decide +kernel
theorem dX3_init_19 : decode cX3_init 19 = .ok (.aload_n 0, 1) := by decide +kernel
theorem dX3_init_20 : decode cX3_init 20 = .ok (.bipush 6, 2) := by decide +kernel
theorem dX3_init_22 : decode cX3_init 22 = .ok (.newarray .int, 2) := by decide +kernel
theorem dX3_init_24 : decode cX3_init 24 = .ok (.putfield 18, 3) := by decide +kernel
theorem dX3_init_27 : decode cX3_init 27 = .ok (.aload_n 0, 1) := by decide +kernel
theorem dX3_init_28 : decode cX3_init 28 = .ok (.iconst 4, 1) := by decide +kernel
theorem dX3_init_29 : decode cX3_init 29 = .ok (.newarray .int, 2) := by decide +kernel
theorem dX3_init_31 : decode cX3_init 31 = .ok (.putfield 21, 3) := by decide +kernel
theorem dX3_init_34 : decode cX3_init 34 = .ok (.aload_n 0, 1) := by decide +kernel
theorem dX3_init_35 : decode cX3_init 35 = .ok (.aload_n 1, 1) := by decide +kernel
theorem dX3_init_36 : decode cX3_init 36 = .ok (.putfield 24, 3) := by decide +kernel
theorem dX3_init_39 : decode cX3_init 39 = .ok (.return_, 1) := by decide +kernel
theorem dX3_begin_0 : decode cX3_begin 0 = .ok (.iconst 0, 1) := by decide +kernel
theorem dX3_begin_1 : decode cX3_begin 1 = .ok (.istore_n 1, 1) := by decide +kernel
theorem dX3_begin_2 : decode cX3_begin 2 = .ok (.iload_n 1, 1) := by decide +kernel
theorem dX3_begin_3 : decode cX3_begin 3 = .ok (.aload_n 0, 1) := by decide +kernel
theorem dX3_begin_4 : decode cX3_begin 4 = .ok (.getfield 24, 3) := by decide +kernel
theorem dX3_begin_7 : decode cX3_begin 7 = .ok (.getfield 28, 3) := by decide +kernel
theorem dX3_begin_10 : decode cX3_begin 10 = .ok (.if_icmp .ge 48, 3) := by decide +kernel
theorem dX3_begin_13 : decode cX3_begin 13 = .ok (.aload_n 0, 1) := by decide +kernel
theorem dX3_begin_14 : decode cX3_begin 14 = .ok (.getfield 9, 3) := by decide +kernel
theorem dX3_begin_17 : decode cX3_begin 17 = .ok (.iload_n 1, 1) := by decide +kernel
theorem dX3_begin_18 : decode cX3_begin 18 = .ok (.aload_n 0, 1) := by decide +kernel
theorem dX3_begin_19 : decode cX3_begin 19 = .ok (.getfield 24, 3) := by decide +kernel
theorem dX3_begin_22 : decode cX3_begin 22 = .ok (.getfield 34, 3) := by decide +kernel
theorem dX3_begin_25 : decode cX3_begin 25 = .ok (.iload_n 1, 1) := by decide +kernel
theorem dX3_begin_26 : decode cX3_begin 26 = .ok (.baload, 1) := by decide +kernel
theorem dX3_begin_27 : decode cX3_begin 27 = .ok (.ifCond .eq 15, 3) := by decide +kernel
theorem dX3_begin_30 : decode cX3_begin 30 = .ok (.aload_n 0, 1) := by decide +kernel
theorem dX3_begin_31 : decode cX3_begin 31 = .ok (.getfield 24, 3) := by decide +kernel
theorem dX3_begin_34 : decode cX3_begin 34 = .ok (.getfield 38, 3) := by decide +kernel
theorem dX3_begin_37 : decode cX3_begin 37 = .ok (.iload_n 1, 1) := by decide +kernel
theorem dX3_begin_38 : decode cX3_begin 38 = .ok (.iaload, 1) := by decide +kernel
theorem dX3_begin_39 : decode cX3_begin 39 = .ok (.goto 5, 3) := by decide +kernel
theorem dX3_begin_42 : decode cX3_begin 42 = .ok (.ldc 39, 2) := by decide +kernel
theorem dX3_begin_44 : decode cX3_begin 44 = .ok (.iastore, 1) := by decide +kernel
theorem dX3_begin_45 : decode cX3_begin 45 = .ok (.aload_n 0, 1) := by decide +kernel
theorem dX3_begin_46 : decode cX3_begin 46 = .ok (.getfield 18, 3) := by decide +kernel
theorem dX3_begin_49 : decode cX3_begin 49 = .ok (.iload_n 1, 1) := by decide +kernel
theorem dX3_begin_50 : decode cX3_begin 50 = .ok (.iconst 0, 1) := by decide +kernel
theorem dX3_begin_51 : decode cX3_begin 51 = .ok (.iastore, 1) := by decide +kernel
theorem dX3_begin_52 : decode cX3_begin 52 = .ok (.iinc 1 1, 3) := by decide +kernel
theorem dX3_begin_55 : decode cX3_begin 55 = .ok (.goto (-53), 3) := by decide +kernel
theorem dX3_begin_58 : decode cX3_begin 58 = .ok (.iconst 0, 1) := by decide +kernel
theorem dX3_begin_59 : decode cX3_begin 59 = .ok (.istore_n 1, 1) := by decide +kernel
theorem dX3_begin_60 : decode cX3_begin 60 = .ok (.iload_n 1, 1) := by decide +kernel
theorem dX3_begin_61 : decode cX3_begin 61 = .ok (.aload_n 0, 1) := by decide +kernel
theorem dX3_begin_62 : decode cX3_begin 62 = .ok (.getfield 24, 3) := by decide +kernel
theorem dX3_begin_65 : decode cX3_begin 65 = .ok (.getfield 40, 3) := by decide +kernel
theorem dX3_begin_68 : decode cX3_begin 68 = .ok (.if_icmp .ge 31, 3) := by decide +kernel
theorem dX3_begin_71 : decode cX3_begin 71 = .ok (.aload_n 0, 1) := by decide +kernel
theorem dX3_begin_72 : decode cX3_begin 72 = .ok (.getfield 15, 3) := by decide +kernel
theorem dX3_begin_75 : decode cX3_begin 75 = .ok (.iload_n 1, 1) := by decide +kernel
theorem dX3_begin_76 : decode cX3_begin 76 = .ok (.aload_n 0, 1) := by decide +kernel
theorem dX3_begin_77 : decode cX3_begin 77 = .ok (.getfield 24, 3) := by decide +kernel
theorem dX3_begin_80 : decode cX3_begin 80 = .ok (.getfield 43, 3) := by decide +kernel
theorem dX3_begin_83 : decode cX3_begin 83 = .ok (.iload_n 1, 1) := by decide +kernel
theorem dX3_begin_84 : decode cX3_begin 84 = .ok (.iaload, 1) := by decide +kernel
theorem dX3_begin_85 : decode cX3_begin 85 = .ok (.iastore, 1) := by decide +kernel
theorem dX3_begin_86 : decode cX3_begin 86 = .ok (.aload_n 0, 1) := by decide +kernel
theorem dX3_begin_87 : decode cX3_begin 87 = .ok (.getfield 21, 3) := by decide +kernel
theorem dX3_begin_90 : decode cX3_begin 90 = .ok (.iload_n 1, 1) := by decide +kernel
theorem dX3_begin_91 : decode cX3_begin 91 = .ok (.iconst 0, 1) := by decide +kernel
theorem dX3_begin_92 : decode cX3_begin 92 = .ok (.iastore, 1) := by decide +kernel
theorem dX3_begin_93 : decode cX3_begin 93 = .ok (.iinc 1 1, 3) := by decide +kernel
theorem dX3_begin_96 : decode cX3_begin 96 = .ok (.goto (-36), 3) := by decide +kernel
theorem dX3_begin_99 : decode cX3_begin 99 = .ok (.aload_n 0, 1) := by decide +kernel
theorem dX3_begin_100 : decode cX3_begin 100 = .ok (.iconst 0, 1) := by decide +kernel
theorem dX3_begin_101 : decode cX3_begin 101 = .ok (.putfield 44, 3) := by decide +kernel
theorem dX3_begin_104 : decode cX3_begin 104 = .ok (.return_, 1) := by decide +kernel
theorem dX3_loosen_0 : decode cX3_loosen 0 = .ok (.aload_n 0, 1) := by decide +kernel
theorem dX3_loosen_1 : decode cX3_loosen 1 = .ok (.getfield 9, 3) := by decide +kernel
theorem dX3_loosen_4 : decode cX3_loosen 4 = .ok (.iload_n 1, 1) := by decide +kernel
theorem dX3_loosen_5 : decode cX3_loosen 5 = .ok (.dup2, 1) := by decide +kernel
theorem dX3_loosen_6 : decode cX3_loosen 6 = .ok (.iaload, 1) := by decide +kernel
theorem dX3_loosen_7 : decode cX3_loosen 7 = .ok (.iload_n 2, 1) := by decide +kernel
theorem dX3_loosen_8 : decode cX3_loosen 8 = .ok (.iadd, 1) := by decide +kernel
theorem dX3_loosen_9 : decode cX3_loosen 9 = .ok (.iastore, 1) := by decide +kernel
theorem dX3_loosen_10 : decode cX3_loosen 10 = .ok (.return_, 1) := by decide +kernel
theorem dX3_allowOneMore_0 : decode cX3_allowOneMore 0 = .ok (.aload_n 0, 1) := by decide +kernel
theorem dX3_allowOneMore_1 : decode cX3_allowOneMore 1 = .ok (.getfield 15, 3) := by decide +kernel
theorem dX3_allowOneMore_4 : decode cX3_allowOneMore 4 = .ok (.iload_n 1, 1) := by decide +kernel
theorem dX3_allowOneMore_5 : decode cX3_allowOneMore 5 = .ok (.dup2, 1) := by decide +kernel
theorem dX3_allowOneMore_6 : decode cX3_allowOneMore 6 = .ok (.iaload, 1) := by decide +kernel
theorem dX3_allowOneMore_7 : decode cX3_allowOneMore 7 = .ok (.iconst 1, 1) := by decide +kernel
theorem dX3_allowOneMore_8 : decode cX3_allowOneMore 8 = .ok (.iadd, 1) := by decide +kernel
theorem dX3_allowOneMore_9 : decode cX3_allowOneMore 9 = .ok (.iastore, 1) := by decide +kernel
theorem dX3_allowOneMore_10 : decode cX3_allowOneMore 10 = .ok (.return_, 1) := by decide +kernel
theorem dX3_goTo_0 : decode cX3_goTo 0 = .ok (.iconst 0, 1) := by decide +kernel
theorem dX3_goTo_1 : decode cX3_goTo 1 = .ok (.istore_n 2, 1) := by decide +kernel
theorem dX3_goTo_2 : decode cX3_goTo 2 = .ok (.iload_n 2, 1) := by decide +kernel
theorem dX3_goTo_3 : decode cX3_goTo 3 = .ok (.aload_n 0, 1) := by decide +kernel
theorem dX3_goTo_4 : decode cX3_goTo 4 = .ok (.getfield 24, 3) := by decide +kernel
theorem dX3_goTo_7 : decode cX3_goTo 7 = .ok (.getfield 40, 3) := by decide +kernel
theorem dX3_goTo_10 : decode cX3_goTo 10 = .ok (.if_icmp .ge 24, 3) := by decide +kernel
theorem dX3_goTo_13 : decode cX3_goTo 13 = .ok (.aload_n 0, 1) := by decide +kernel
theorem dX3_goTo_14 : decode cX3_goTo 14 = .ok (.iload_n 2, 1) := by decide +kernel
theorem dX3_goTo_15 : decode cX3_goTo 15 = .ok (.aload_n 1, 1) := by decide +kernel
theorem dX3_goTo_16 : decode cX3_goTo 16 = .ok (.iload_n 2, 1) := by decide +kernel
theorem dX3_goTo_17 : decode cX3_goTo 17 = .ok (.iaload, 1) := by decide +kernel
theorem dX3_goTo_18 : decode cX3_goTo 18 = .ok (.aload_n 0, 1) := by decide +kernel
theorem dX3_goTo_19 : decode cX3_goTo 19 = .ok (.getfield 21, 3) := by decide +kernel
theorem dX3_goTo_22 : decode cX3_goTo 22 = .ok (.iload_n 2, 1) := by decide +kernel
theorem dX3_goTo_23 : decode cX3_goTo 23 = .ok (.iaload, 1) := by decide +kernel
theorem dX3_goTo_24 : decode cX3_goTo 24 = .ok (.isub, 1) := by decide +kernel
theorem dX3_goTo_25 : decode cX3_goTo 25 = .ok (.invokevirtual 47, 3) := by decide +kernel
theorem dX3_goTo_28 : decode cX3_goTo 28 = .ok (.iinc 2 1, 3) := by decide +kernel
theorem dX3_goTo_31 : decode cX3_goTo 31 = .ok (.goto (-29), 3) := by decide +kernel
theorem dX3_goTo_34 : decode cX3_goTo 34 = .ok (.return_, 1) := by decide +kernel
theorem dX3_plans_0 : decode cX3_plans 0 = .ok (.iconst 1, 1) := by decide +kernel
theorem dX3_plans_1 : decode cX3_plans 1 = .ok (.istore_n 1, 1) := by decide +kernel
theorem dX3_plans_2 : decode cX3_plans 2 = .ok (.iconst 0, 1) := by decide +kernel
theorem dX3_plans_3 : decode cX3_plans 3 = .ok (.istore_n 2, 1) := by decide +kernel
theorem dX3_plans_4 : decode cX3_plans 4 = .ok (.iload_n 2, 1) := by decide +kernel
theorem dX3_plans_5 : decode cX3_plans 5 = .ok (.aload_n 0, 1) := by decide +kernel
theorem dX3_plans_6 : decode cX3_plans 6 = .ok (.getfield 24, 3) := by decide +kernel
theorem dX3_plans_9 : decode cX3_plans 9 = .ok (.getfield 40, 3) := by decide +kernel
theorem dX3_plans_12 : decode cX3_plans 12 = .ok (.if_icmp .ge 20, 3) := by decide +kernel
theorem dX3_plans_15 : decode cX3_plans 15 = .ok (.iload_n 1, 1) := by decide +kernel
theorem dX3_plans_16 : decode cX3_plans 16 = .ok (.aload_n 0, 1) := by decide +kernel
theorem dX3_plans_17 : decode cX3_plans 17 = .ok (.getfield 15, 3) := by decide +kernel
theorem dX3_plans_20 : decode cX3_plans 20 = .ok (.iload_n 2, 1) := by decide +kernel
theorem dX3_plans_21 : decode cX3_plans 21 = .ok (.iaload, 1) := by decide +kernel
theorem dX3_plans_22 : decode cX3_plans 22 = .ok (.iconst 1, 1) := by decide +kernel
theorem dX3_plans_23 : decode cX3_plans 23 = .ok (.iadd, 1) := by decide +kernel
theorem dX3_plans_24 : decode cX3_plans 24 = .ok (.imul, 1) := by decide +kernel
theorem dX3_plans_25 : decode cX3_plans 25 = .ok (.istore_n 1, 1) := by decide +kernel
theorem dX3_plans_26 : decode cX3_plans 26 = .ok (.iinc 2 1, 3) := by decide +kernel
theorem dX3_plans_29 : decode cX3_plans 29 = .ok (.goto (-25), 3) := by decide +kernel
theorem dX3_plans_32 : decode cX3_plans 32 = .ok (.iload_n 1, 1) := by decide +kernel
theorem dX3_plans_33 : decode cX3_plans 33 = .ok (.ireturn, 1) := by decide +kernel
theorem dX3_step_0 : decode cX3_step 0 = .ok (.aload_n 0, 1) := by decide +kernel
theorem dX3_step_1 : decode cX3_step 1 = .ok (.getfield 24, 3) := by decide +kernel
theorem dX3_step_4 : decode cX3_step 4 = .ok (.getfield 40, 3) := by decide +kernel
theorem dX3_step_7 : decode cX3_step 7 = .ok (.iconst 1, 1) := by decide +kernel
theorem dX3_step_8 : decode cX3_step 8 = .ok (.isub, 1) := by decide +kernel
theorem dX3_step_9 : decode cX3_step 9 = .ok (.istore_n 1, 1) := by decide +kernel
theorem dX3_step_10 : decode cX3_step 10 = .ok (.iload_n 1, 1) := by decide +kernel
theorem dX3_step_11 : decode cX3_step 11 = .ok (.ifCond .lt 43, 3) := by decide +kernel
theorem dX3_step_14 : decode cX3_step 14 = .ok (.aload_n 0, 1) := by decide +kernel
theorem dX3_step_15 : decode cX3_step 15 = .ok (.getfield 21, 3) := by decide +kernel
theorem dX3_step_18 : decode cX3_step 18 = .ok (.iload_n 1, 1) := by decide +kernel
theorem dX3_step_19 : decode cX3_step 19 = .ok (.iaload, 1) := by decide +kernel
theorem dX3_step_20 : decode cX3_step 20 = .ok (.aload_n 0, 1) := by decide +kernel
theorem dX3_step_21 : decode cX3_step 21 = .ok (.getfield 15, 3) := by decide +kernel
theorem dX3_step_24 : decode cX3_step 24 = .ok (.iload_n 1, 1) := by decide +kernel
theorem dX3_step_25 : decode cX3_step 25 = .ok (.iaload, 1) := by decide +kernel
theorem dX3_step_26 : decode cX3_step 26 = .ok (.if_icmp .ge 10, 3) := by decide +kernel
theorem dX3_step_29 : decode cX3_step 29 = .ok (.aload_n 0, 1) := by decide +kernel
theorem dX3_step_30 : decode cX3_step 30 = .ok (.iload_n 1, 1) := by decide +kernel
theorem dX3_step_31 : decode cX3_step 31 = .ok (.iconst 1, 1) := by decide +kernel
theorem dX3_step_32 : decode cX3_step 32 = .ok (.invokevirtual 47, 3) := by decide +kernel
theorem dX3_step_35 : decode cX3_step 35 = .ok (.return_, 1) := by decide +kernel
theorem dX3_step_36 : decode cX3_step 36 = .ok (.aload_n 0, 1) := by decide +kernel
theorem dX3_step_37 : decode cX3_step 37 = .ok (.iload_n 1, 1) := by decide +kernel
theorem dX3_step_38 : decode cX3_step 38 = .ok (.aload_n 0, 1) := by decide +kernel
theorem dX3_step_39 : decode cX3_step 39 = .ok (.getfield 21, 3) := by decide +kernel
theorem dX3_step_42 : decode cX3_step 42 = .ok (.iload_n 1, 1) := by decide +kernel
theorem dX3_step_43 : decode cX3_step 43 = .ok (.iaload, 1) := by decide +kernel
theorem dX3_step_44 : decode cX3_step 44 = .ok (.ineg, 1) := by decide +kernel
theorem dX3_step_45 : decode cX3_step 45 = .ok (.invokevirtual 47, 3) := by decide +kernel
theorem dX3_step_48 : decode cX3_step 48 = .ok (.iinc 1 (-1), 3) := by decide +kernel
theorem dX3_step_51 : decode cX3_step 51 = .ok (.goto (-41), 3) := by decide +kernel
theorem dX3_step_54 : decode cX3_step 54 = .ok (.return_, 1) := by decide +kernel
theorem dX3_shift_0 : decode cX3_shift 0 = .ok (.iload_n 2, 1) := by decide +kernel
theorem dX3_shift_1 : decode cX3_shift 1 = .ok (.ifCond .ne 4, 3) := by decide +kernel
theorem dX3_shift_4 : decode cX3_shift 4 = .ok (.return_, 1) := by decide +kernel
theorem dX3_shift_5 : decode cX3_shift 5 = .ok (.aload_n 0, 1) := by decide +kernel
theorem dX3_shift_6 : decode cX3_shift 6 = .ok (.getfield 21, 3) := by decide +kernel
theorem dX3_shift_9 : decode cX3_shift 9 = .ok (.iload_n 1, 1) := by decide +kernel
theorem dX3_shift_10 : decode cX3_shift 10 = .ok (.dup2, 1) := by decide +kernel
theorem dX3_shift_11 : decode cX3_shift 11 = .ok (.iaload, 1) := by decide +kernel
theorem dX3_shift_12 : decode cX3_shift 12 = .ok (.iload_n 2, 1) := by decide +kernel
theorem dX3_shift_13 : decode cX3_shift 13 = .ok (.iadd, 1) := by decide +kernel
theorem dX3_shift_14 : decode cX3_shift 14 = .ok (.iastore, 1) := by decide +kernel
theorem dX3_shift_15 : decode cX3_shift 15 = .ok (.aload_n 0, 1) := by decide +kernel
theorem dX3_shift_16 : decode cX3_shift 16 = .ok (.dup, 1) := by decide +kernel
theorem dX3_shift_17 : decode cX3_shift 17 = .ok (.getfield 44, 3) := by decide +kernel
theorem dX3_shift_20 : decode cX3_shift 20 = .ok (.iload_n 2, 1) := by decide +kernel
theorem dX3_shift_21 : decode cX3_shift 21 = .ok (.aload_n 0, 1) := by decide +kernel
theorem dX3_shift_22 : decode cX3_shift 22 = .ok (.getfield 24, 3) := by decide +kernel
theorem dX3_shift_25 : decode cX3_shift 25 = .ok (.getfield 51, 3) := by decide +kernel
theorem dX3_shift_28 : decode cX3_shift 28 = .ok (.iload_n 1, 1) := by decide +kernel
theorem dX3_shift_29 : decode cX3_shift 29 = .ok (.iaload, 1) := by decide +kernel
theorem dX3_shift_30 : decode cX3_shift 30 = .ok (.imul, 1) := by decide +kernel
theorem dX3_shift_31 : decode cX3_shift 31 = .ok (.iadd, 1) := by decide +kernel
theorem dX3_shift_32 : decode cX3_shift 32 = .ok (.putfield 44, 3) := by decide +kernel
theorem dX3_shift_35 : decode cX3_shift 35 = .ok (.iconst 0, 1) := by decide +kernel
theorem dX3_shift_36 : decode cX3_shift 36 = .ok (.istore_n 3, 1) := by decide +kernel
theorem dX3_shift_37 : decode cX3_shift 37 = .ok (.iload_n 3, 1) := by decide +kernel
theorem dX3_shift_38 : decode cX3_shift 38 = .ok (.aload_n 0, 1) := by decide +kernel
theorem dX3_shift_39 : decode cX3_shift 39 = .ok (.getfield 24, 3) := by decide +kernel
theorem dX3_shift_42 : decode cX3_shift 42 = .ok (.getfield 28, 3) := by decide +kernel
theorem dX3_shift_45 : decode cX3_shift 45 = .ok (.if_icmp .ge 33, 3) := by decide +kernel
theorem dX3_shift_48 : decode cX3_shift 48 = .ok (.aload_n 0, 1) := by decide +kernel
theorem dX3_shift_49 : decode cX3_shift 49 = .ok (.getfield 18, 3) := by decide +kernel
theorem dX3_shift_52 : decode cX3_shift 52 = .ok (.iload_n 3, 1) := by decide +kernel
theorem dX3_shift_53 : decode cX3_shift 53 = .ok (.dup2, 1) := by decide +kernel
theorem dX3_shift_54 : decode cX3_shift 54 = .ok (.iaload, 1) := by decide +kernel
theorem dX3_shift_55 : decode cX3_shift 55 = .ok (.iload_n 2, 1) := by decide +kernel
theorem dX3_shift_56 : decode cX3_shift 56 = .ok (.aload_n 0, 1) := by decide +kernel
theorem dX3_shift_57 : decode cX3_shift 57 = .ok (.getfield 24, 3) := by decide +kernel
theorem dX3_shift_60 : decode cX3_shift 60 = .ok (.getfield 54, 3) := by decide +kernel
theorem dX3_shift_63 : decode cX3_shift 63 = .ok (.iload_n 3, 1) := by decide +kernel
theorem dX3_shift_64 : decode cX3_shift 64 = .ok (.iconst 4, 1) := by decide +kernel
theorem dX3_shift_65 : decode cX3_shift 65 = .ok (.imul, 1) := by decide +kernel
theorem dX3_shift_66 : decode cX3_shift 66 = .ok (.iload_n 1, 1) := by decide +kernel
theorem dX3_shift_67 : decode cX3_shift 67 = .ok (.iadd, 1) := by decide +kernel
theorem dX3_shift_68 : decode cX3_shift 68 = .ok (.iaload, 1) := by decide +kernel
theorem dX3_shift_69 : decode cX3_shift 69 = .ok (.imul, 1) := by decide +kernel
theorem dX3_shift_70 : decode cX3_shift 70 = .ok (.iadd, 1) := by decide +kernel
theorem dX3_shift_71 : decode cX3_shift 71 = .ok (.iastore, 1) := by decide +kernel
theorem dX3_shift_72 : decode cX3_shift 72 = .ok (.iinc 3 1, 3) := by decide +kernel
theorem dX3_shift_75 : decode cX3_shift 75 = .ok (.goto (-38), 3) := by decide +kernel
theorem dX3_shift_78 : decode cX3_shift 78 = .ok (.return_, 1) := by decide +kernel
theorem dX3_firstOver_0 : decode cX3_firstOver 0 = .ok (.iload_n 1, 1) := by decide +kernel
theorem dX3_firstOver_1 : decode cX3_firstOver 1 = .ok (.istore_n 2, 1) := by decide +kernel
theorem dX3_firstOver_2 : decode cX3_firstOver 2 = .ok (.iload_n 2, 1) := by decide +kernel
theorem dX3_firstOver_3 : decode cX3_firstOver 3 = .ok (.aload_n 0, 1) := by decide +kernel
theorem dX3_firstOver_4 : decode cX3_firstOver 4 = .ok (.getfield 24, 3) := by decide +kernel
theorem dX3_firstOver_7 : decode cX3_firstOver 7 = .ok (.getfield 28, 3) := by decide +kernel
theorem dX3_firstOver_10 : decode cX3_firstOver 10 = .ok (.if_icmp .ge 25, 3) := by decide +kernel
theorem dX3_firstOver_13 : decode cX3_firstOver 13 = .ok (.aload_n 0, 1) := by decide +kernel
theorem dX3_firstOver_14 : decode cX3_firstOver 14 = .ok (.iload_n 2, 1) := by decide +kernel
theorem dX3_firstOver_15 : decode cX3_firstOver 15 = .ok (.invokevirtual 57, 3) := by decide +kernel
theorem dX3_firstOver_18 : decode cX3_firstOver 18 = .ok (.aload_n 0, 1) := by decide +kernel
theorem dX3_firstOver_19 : decode cX3_firstOver 19 = .ok (.getfield 9, 3) := by decide +kernel
theorem dX3_firstOver_22 : decode cX3_firstOver 22 = .ok (.iload_n 2, 1) := by decide +kernel
theorem dX3_firstOver_23 : decode cX3_firstOver 23 = .ok (.iaload, 1) := by decide +kernel
theorem dX3_firstOver_24 : decode cX3_firstOver 24 = .ok (.if_icmp .le 5, 3) := by decide +kernel
theorem dX3_firstOver_27 : decode cX3_firstOver 27 = .ok (.iload_n 2, 1) := by decide +kernel
theorem dX3_firstOver_28 : decode cX3_firstOver 28 = .ok (.ireturn, 1) := by decide +kernel
theorem dX3_firstOver_29 : decode cX3_firstOver 29 = .ok (.iinc 2 1, 3) := by decide +kernel
theorem dX3_firstOver_32 : decode cX3_firstOver 32 = .ok (.goto (-30), 3) := by decide +kernel
theorem dX3_firstOver_35 : decode cX3_firstOver 35 = .ok (.ldc 61, 2) := by decide +kernel
theorem dX3_firstOver_37 : decode cX3_firstOver 37 = .ok (.ireturn, 1) := by decide +kernel
theorem dX3_load_0 : decode cX3_load 0 = .ok (.aload_n 0, 1) := by decide +kernel
theorem dX3_load_1 : decode cX3_load 1 = .ok (.getfield 24, 3) := by decide +kernel
theorem dX3_load_4 : decode cX3_load 4 = .ok (.getfield 62, 3) := by decide +kernel
theorem dX3_load_7 : decode cX3_load 7 = .ok (.iload_n 1, 1) := by decide +kernel
theorem dX3_load_8 : decode cX3_load 8 = .ok (.iaload, 1) := by decide +kernel
theorem dX3_load_9 : decode cX3_load 9 = .ok (.iconst 2, 1) := by decide +kernel
theorem dX3_load_10 : decode cX3_load 10 = .ok (.if_icmp .eq 10, 3) := by decide +kernel
theorem dX3_load_13 : decode cX3_load 13 = .ok (.aload_n 0, 1) := by decide +kernel
theorem dX3_load_14 : decode cX3_load 14 = .ok (.getfield 18, 3) := by decide +kernel
theorem dX3_load_17 : decode cX3_load 17 = .ok (.iload_n 1, 1) := by decide +kernel
theorem dX3_load_18 : decode cX3_load 18 = .ok (.iaload, 1) := by decide +kernel
theorem dX3_load_19 : decode cX3_load 19 = .ok (.ireturn, 1) := by decide +kernel
theorem dX3_load_20 : decode cX3_load 20 = .ok (.aload_n 0, 1) := by decide +kernel
theorem dX3_load_21 : decode cX3_load 21 = .ok (.getfield 21, 3) := by decide +kernel
theorem dX3_load_24 : decode cX3_load 24 = .ok (.aload_n 0, 1) := by decide +kernel
theorem dX3_load_25 : decode cX3_load 25 = .ok (.getfield 24, 3) := by decide +kernel
theorem dX3_load_28 : decode cX3_load 28 = .ok (.getfield 65, 3) := by decide +kernel
theorem dX3_load_31 : decode cX3_load 31 = .ok (.iload_n 1, 1) := by decide +kernel
theorem dX3_load_32 : decode cX3_load 32 = .ok (.iaload, 1) := by decide +kernel
theorem dX3_load_33 : decode cX3_load 33 = .ok (.iaload, 1) := by decide +kernel
theorem dX3_load_34 : decode cX3_load 34 = .ok (.aload_n 0, 1) := by decide +kernel
theorem dX3_load_35 : decode cX3_load 35 = .ok (.getfield 21, 3) := by decide +kernel
theorem dX3_load_38 : decode cX3_load 38 = .ok (.aload_n 0, 1) := by decide +kernel
theorem dX3_load_39 : decode cX3_load 39 = .ok (.getfield 24, 3) := by decide +kernel
theorem dX3_load_42 : decode cX3_load 42 = .ok (.getfield 68, 3) := by decide +kernel
theorem dX3_load_45 : decode cX3_load 45 = .ok (.iload_n 1, 1) := by decide +kernel
theorem dX3_load_46 : decode cX3_load 46 = .ok (.iaload, 1) := by decide +kernel
theorem dX3_load_47 : decode cX3_load 47 = .ok (.iaload, 1) := by decide +kernel
theorem dX3_load_48 : decode cX3_load 48 = .ok (.invokestatic 71, 3) := by decide +kernel
theorem dX3_load_51 : decode cX3_load 51 = .ok (.ireturn, 1) := by decide +kernel
theorem dX3_greatestFitting_0 : decode cX3_greatestFitting 0 = .ok (.iconst 0, 1) := by decide +kernel
theorem dX3_greatestFitting_1 : decode cX3_greatestFitting 1 = .ok (.istore_n 1, 1) := by decide +kernel
theorem dX3_greatestFitting_2 : decode cX3_greatestFitting 2 = .ok (.aload_n 0, 1) := by decide +kernel
theorem dX3_greatestFitting_3 : decode cX3_greatestFitting 3 = .ok (.invokevirtual 77, 3) := by decide +kernel
theorem dX3_greatestFitting_6 : decode cX3_greatestFitting 6 = .ok (.istore_n 2, 1) := by decide +kernel
theorem dX3_greatestFitting_7 : decode cX3_greatestFitting 7 = .ok (.iload_n 2, 1) := by decide +kernel
theorem dX3_greatestFitting_8 : decode cX3_greatestFitting 8 = .ok (.ifCond .le 36, 3) := by decide +kernel
theorem dX3_greatestFitting_11 : decode cX3_greatestFitting 11 = .ok (.aload_n 0, 1) := by decide +kernel
theorem dX3_greatestFitting_12 : decode cX3_greatestFitting 12 = .ok (.getfield 44, 3) := by decide +kernel
theorem dX3_greatestFitting_15 : decode cX3_greatestFitting 15 = .ok (.iload_n 1, 1) := by decide +kernel
theorem dX3_greatestFitting_16 : decode cX3_greatestFitting 16 = .ok (.if_icmp .le 18, 3) := by decide +kernel
theorem dX3_greatestFitting_19 : decode cX3_greatestFitting 19 = .ok (.aload_n 0, 1) := by decide +kernel
theorem dX3_greatestFitting_20 : decode cX3_greatestFitting 20 = .ok (.iconst 0, 1) := by decide +kernel
theorem dX3_greatestFitting_21 : decode cX3_greatestFitting 21 = .ok (.invokevirtual 81, 3) := by decide +kernel
theorem dX3_greatestFitting_24 : decode cX3_greatestFitting 24 = .ok (.ldc 61, 2) := by decide +kernel
theorem dX3_greatestFitting_26 : decode cX3_greatestFitting 26 = .ok (.if_icmp .ne 8, 3) := by decide +kernel
theorem dX3_greatestFitting_29 : decode cX3_greatestFitting 29 = .ok (.aload_n 0, 1) := by decide +kernel
theorem dX3_greatestFitting_30 : decode cX3_greatestFitting 30 = .ok (.getfield 44, 3) := by decide +kernel
theorem dX3_greatestFitting_33 : decode cX3_greatestFitting 33 = .ok (.istore_n 1, 1) := by decide +kernel
theorem dX3_greatestFitting_34 : decode cX3_greatestFitting 34 = .ok (.aload_n 0, 1) := by decide +kernel
theorem dX3_greatestFitting_35 : decode cX3_greatestFitting 35 = .ok (.invokevirtual 84, 3) := by decide +kernel
theorem dX3_greatestFitting_38 : decode cX3_greatestFitting 38 = .ok (.iinc 2 (-1), 3) := by decide +kernel
theorem dX3_greatestFitting_41 : decode cX3_greatestFitting 41 = .ok (.goto (-34), 3) := by decide +kernel
theorem dX3_greatestFitting_44 : decode cX3_greatestFitting 44 = .ok (.iload_n 1, 1) := by decide +kernel
theorem dX3_greatestFitting_45 : decode cX3_greatestFitting 45 = .ok (.ireturn, 1) := by decide +kernel
theorem dX4_init_0 : decode cX4_init 0 = .ok (.aload_n 0, 1) := by decide +kernel
theorem dX4_init_1 : decode cX4_init 1 = .ok (.invokespecial 1, 3) := by decide +kernel
theorem dX4_init_4 : decode cX4_init 4 = .ok (.aload_n 0, 1) := by decide +kernel
theorem dX4_init_5 : decode cX4_init 5 = .ok (.new 7, 3) := by decide +kernel
theorem dX4_init_8 : decode cX4_init 8 = .ok (.dup, 1) := by decide +kernel
theorem dX4_init_9 : decode cX4_init 9 = .ok (.invokespecial 9, 3) := by decide +kernel
theorem dX4_init_12 : decode cX4_init 12 = .ok (.putfield 10, 3) := by decide +kernel
theorem dX4_init_15 : decode cX4_init 15 = .ok (.aload_n 0, 1) := by decide +kernel
theorem dX4_init_16 : decode cX4_init 16 = .ok (.new 16, 3) := by decide +kernel
theorem dX4_init_19 : decode cX4_init 19 = .ok (.dup, 1) := by decide +kernel
theorem dX4_init_20 : decode cX4_init 20 = .ok (.aload_n 0, 1) := by decide +kernel
theorem dX4_init_21 : decode cX4_init 21 = .ok (.getfield 10, 3) := by decide +kernel
theorem dX4_init_24 : decode cX4_init 24 = .ok (.invokespecial 18, 3) := by decide +kernel
theorem dX4_init_27 : decode cX4_init 27 = .ok (.putfield 21, 3) := by decide +kernel
theorem dX4_init_30 : decode cX4_init 30 = .ok (.aload_n 0, 1) := by decide +kernel
theorem dX4_init_31 : decode cX4_init 31 = .ok (.new 25, 3) := by decide +kernel
theorem dX4_init_34 : decode cX4_init 34 = .ok (.dup, 1) := by decide +kernel
theorem dX4_init_35 : decode cX4_init 35 = .ok (.invokespecial 27, 3) := by decide +kernel
theorem dX4_init_38 : decode cX4_init 38 = .ok (.putfield 28, 3) := by decide +kernel
theorem dX4_init_41 : decode cX4_init 41 = .ok (.aload_n 0, 1) := by decide +kernel
theorem dX4_init_42 : decode cX4_init 42 = .ok (.new 32, 3) := by decide +kernel
theorem dX4_init_45 : decode cX4_init 45 = .ok (.dup, 1) := by decide +kernel
theorem dX4_init_46 : decode cX4_init 46 = .ok (.invokespecial 34, 3) := by decide +kernel
theorem dX4_init_49 : decode cX4_init 49 = .ok (.putfield 35, 3) := by decide +kernel
theorem dX4_init_52 : decode cX4_init 52 = .ok (.aload_n 0, 1) := by decide +kernel
theorem dX4_init_53 : decode cX4_init 53 = .ok (.iconst 4, 1) := by decide +kernel
theorem dX4_init_54 : decode cX4_init 54 = .ok (.newarray .int, 2) := by decide +kernel
theorem dX4_init_56 : decode cX4_init 56 = .ok (.putfield 39, 3) := by decide +kernel
theorem dX4_init_59 : decode cX4_init 59 = .ok (.return_, 1) := by decide +kernel
end
section
theorem dX4_thing_0 : decode cX4_thing 0 = .ok (.iload_n 1, 1) := by decide +kernel
theorem dX4_thing_1 : decode cX4_thing 1 = .ok (.invokestatic 43, 3) := by decide +kernel
theorem dX4_thing_4 : decode cX4_thing 4 = .ok (.ifCond .eq 10, 3) := by decide +kernel
theorem dX4_thing_7 : decode cX4_thing 7 = .ok (.iload_n 2, 1) := by decide +kernel
theorem dX4_thing_8 : decode cX4_thing 8 = .ok (.invokestatic 47, 3) := by decide +kernel
theorem dX4_thing_11 : decode cX4_thing 11 = .ok (.ifCond .ne 6, 3) := by decide +kernel
theorem dX4_thing_14 : decode cX4_thing 14 = .ok (.ldc 50, 2) := by decide +kernel
theorem dX4_thing_16 : decode cX4_thing 16 = .ok (.ireturn, 1) := by decide +kernel
theorem dX4_thing_17 : decode cX4_thing 17 = .ok (.aload_n 0, 1) := by decide +kernel
theorem dX4_thing_18 : decode cX4_thing 18 = .ok (.getfield 10, 3) := by decide +kernel
theorem dX4_thing_21 : decode cX4_thing 21 = .ok (.getfield 51, 3) := by decide +kernel
theorem dX4_thing_24 : decode cX4_thing 24 = .ok (.iconst 4, 1) := by decide +kernel
theorem dX4_thing_25 : decode cX4_thing 25 = .ok (.if_icmp .lt 6, 3) := by decide +kernel
theorem dX4_thing_28 : decode cX4_thing 28 = .ok (.ldc 55, 2) := by decide +kernel
theorem dX4_thing_30 : decode cX4_thing 30 = .ok (.ireturn, 1) := by decide +kernel
theorem dX4_thing_31 : decode cX4_thing 31 = .ok (.aload_n 0, 1) := by decide +kernel
theorem dX4_thing_32 : decode cX4_thing 32 = .ok (.invokevirtual 56, 3) := by decide +kernel
theorem dX4_thing_35 : decode cX4_thing 35 = .ok (.aload_n 0, 1) := by decide +kernel
theorem dX4_thing_36 : decode cX4_thing 36 = .ok (.getfield 10, 3) := by decide +kernel
theorem dX4_thing_39 : decode cX4_thing 39 = .ok (.iload_n 1, 1) := by decide +kernel
theorem dX4_thing_40 : decode cX4_thing 40 = .ok (.iload_n 2, 1) := by decide +kernel
theorem dX4_thing_41 : decode cX4_thing 41 = .ok (.invokevirtual 59, 3) := by decide +kernel
theorem dX4_thing_44 : decode cX4_thing 44 = .ok (.ireturn, 1) := by decide +kernel
theorem dX4_rule_0 : decode cX4_rule 0 = .ok (.iload_n 1, 1) := by decide +kernel
theorem dX4_rule_1 : decode cX4_rule 1 = .ok (.ifCond .lt 18, 3) := by decide +kernel
theorem dX4_rule_4 : decode cX4_rule 4 = .ok (.iload_n 1, 1) := by decide +kernel
theorem dX4_rule_5 : decode cX4_rule 5 = .ok (.iconst 2, 1) := by decide +kernel
theorem dX4_rule_6 : decode cX4_rule 6 = .ok (.if_icmp .gt 13, 3) := by decide +kernel
theorem dX4_rule_9 : decode cX4_rule 9 = .ok (.iload_n 1, 1) := by decide +kernel
theorem dX4_rule_10 : decode cX4_rule 10 = .ok (.iload 4, 2) := by decide +kernel
theorem dX4_rule_12 : decode cX4_rule 12 = .ok (.i2l, 1) := by decide +kernel
theorem dX4_rule_13 : decode cX4_rule 13 = .ok (.invokestatic 63, 3) := by decide +kernel
theorem dX4_rule_16 : decode cX4_rule 16 = .ok (.ifCond .ne 6, 3) := by decide +kernel
theorem dX4_rule_19 : decode cX4_rule 19 = .ok (.ldc 50, 2) := by decide +kernel
theorem dX4_rule_21 : decode cX4_rule 21 = .ok (.ireturn, 1) := by decide +kernel
theorem dX4_rule_22 : decode cX4_rule 22 = .ok (.iload_n 1, 1) := by decide +kernel
theorem dX4_rule_23 : decode cX4_rule 23 = .ok (.ifCond .eq 22, 3) := by decide +kernel
theorem dX4_rule_26 : decode cX4_rule 26 = .ok (.aload_n 0, 1) := by decide +kernel
theorem dX4_rule_27 : decode cX4_rule 27 = .ok (.iload_n 2, 1) := by decide +kernel
theorem dX4_rule_28 : decode cX4_rule 28 = .ok (.invokevirtual 67, 3) := by decide +kernel
theorem dX4_rule_31 : decode cX4_rule 31 = .ok (.ifCond .eq 11, 3) := by decide +kernel
theorem dX4_rule_34 : decode cX4_rule 34 = .ok (.aload_n 0, 1) := by decide +kernel
theorem dX4_rule_35 : decode cX4_rule 35 = .ok (.iload_n 3, 1) := by decide +kernel
theorem dX4_rule_36 : decode cX4_rule 36 = .ok (.invokevirtual 67, 3) := by decide +kernel
theorem dX4_rule_39 : decode cX4_rule 39 = .ok (.ifCond .ne 6, 3) := by decide +kernel
theorem dX4_rule_42 : decode cX4_rule 42 = .ok (.ldc 50, 2) := by decide +kernel
theorem dX4_rule_44 : decode cX4_rule 44 = .ok (.ireturn, 1) := by decide +kernel
theorem dX4_rule_45 : decode cX4_rule 45 = .ok (.aload_n 0, 1) := by decide +kernel
theorem dX4_rule_46 : decode cX4_rule 46 = .ok (.getfield 10, 3) := by decide +kernel
theorem dX4_rule_49 : decode cX4_rule 49 = .ok (.getfield 70, 3) := by decide +kernel
theorem dX4_rule_52 : decode cX4_rule 52 = .ok (.bipush 6, 2) := by decide +kernel
theorem dX4_rule_54 : decode cX4_rule 54 = .ok (.if_icmp .lt 6, 3) := by decide +kernel
theorem dX4_rule_57 : decode cX4_rule 57 = .ok (.ldc 55, 2) := by decide +kernel
theorem dX4_rule_59 : decode cX4_rule 59 = .ok (.ireturn, 1) := by decide +kernel
theorem dX4_rule_60 : decode cX4_rule 60 = .ok (.aload_n 0, 1) := by decide +kernel
theorem dX4_rule_61 : decode cX4_rule 61 = .ok (.invokevirtual 56, 3) := by decide +kernel
theorem dX4_rule_64 : decode cX4_rule 64 = .ok (.aload_n 0, 1) := by decide +kernel
theorem dX4_rule_65 : decode cX4_rule 65 = .ok (.getfield 10, 3) := by decide +kernel
theorem dX4_rule_68 : decode cX4_rule 68 = .ok (.iload_n 1, 1) := by decide +kernel
theorem dX4_rule_69 : decode cX4_rule 69 = .ok (.iload 4, 2) := by decide +kernel
theorem dX4_rule_71 : decode cX4_rule 71 = .ok (.invokevirtual 73, 3) := by decide +kernel
theorem dX4_rule_74 : decode cX4_rule 74 = .ok (.istore 5, 2) := by decide +kernel
theorem dX4_rule_76 : decode cX4_rule 76 = .ok (.iload_n 1, 1) := by decide +kernel
theorem dX4_rule_77 : decode cX4_rule 77 = .ok (.ifCond .eq 14, 3) := by decide +kernel
theorem dX4_rule_80 : decode cX4_rule 80 = .ok (.aload_n 0, 1) := by decide +kernel
theorem dX4_rule_81 : decode cX4_rule 81 = .ok (.getfield 10, 3) := by decide +kernel
theorem dX4_rule_84 : decode cX4_rule 84 = .ok (.iload 5, 2) := by decide +kernel
theorem dX4_rule_86 : decode cX4_rule 86 = .ok (.iload_n 2, 1) := by decide +kernel
theorem dX4_rule_87 : decode cX4_rule 87 = .ok (.iload_n 3, 1) := by decide +kernel
theorem dX4_rule_88 : decode cX4_rule 88 = .ok (.invokevirtual 76, 3) := by decide +kernel
theorem dX4_rule_91 : decode cX4_rule 91 = .ok (.iload 5, 2) := by decide +kernel
theorem dX4_rule_93 : decode cX4_rule 93 = .ok (.ireturn, 1) := by decide +kernel
theorem dX4_amount_0 : decode cX4_amount 0 = .ok (.aload_n 0, 1) := by decide +kernel
theorem dX4_amount_1 : decode cX4_amount 1 = .ok (.iload_n 1, 1) := by decide +kernel
theorem dX4_amount_2 : decode cX4_amount 2 = .ok (.invokevirtual 80, 3) := by decide +kernel
theorem dX4_amount_5 : decode cX4_amount 5 = .ok (.ifCond .eq 23, 3) := by decide +kernel
theorem dX4_amount_8 : decode cX4_amount 8 = .ok (.aload_n 0, 1) := by decide +kernel
theorem dX4_amount_9 : decode cX4_amount 9 = .ok (.getfield 10, 3) := by decide +kernel
theorem dX4_amount_12 : decode cX4_amount 12 = .ok (.getfield 83, 3) := by decide +kernel
theorem dX4_amount_15 : decode cX4_amount 15 = .ok (.iload_n 1, 1) := by decide +kernel
theorem dX4_amount_16 : decode cX4_amount 16 = .ok (.iaload, 1) := by decide +kernel
theorem dX4_amount_17 : decode cX4_amount 17 = .ok (.ifCond .ne 11, 3) := by decide +kernel
theorem dX4_amount_20 : decode cX4_amount 20 = .ok (.aload_n 0, 1) := by decide +kernel
theorem dX4_amount_21 : decode cX4_amount 21 = .ok (.iload_n 2, 1) := by decide +kernel
theorem dX4_amount_22 : decode cX4_amount 22 = .ok (.invokevirtual 67, 3) := by decide +kernel
theorem dX4_amount_25 : decode cX4_amount 25 = .ok (.ifCond .ne 6, 3) := by decide +kernel
theorem dX4_amount_28 : decode cX4_amount 28 = .ok (.ldc 50, 2) := by decide +kernel
theorem dX4_amount_30 : decode cX4_amount 30 = .ok (.ireturn, 1) := by decide +kernel
theorem dX4_amount_31 : decode cX4_amount 31 = .ok (.iload_n 3, 1) := by decide +kernel
theorem dX4_amount_32 : decode cX4_amount 32 = .ok (.bipush (-9), 2) := by decide +kernel
theorem dX4_amount_34 : decode cX4_amount 34 = .ok (.if_icmp .lt 9, 3) := by decide +kernel
theorem dX4_amount_37 : decode cX4_amount 37 = .ok (.iload_n 3, 1) := by decide +kernel
theorem dX4_amount_38 : decode cX4_amount 38 = .ok (.bipush 9, 2) := by decide +kernel
theorem dX4_amount_40 : decode cX4_amount 40 = .ok (.if_icmp .le 6, 3) := by decide +kernel
theorem dX4_amount_43 : decode cX4_amount 43 = .ok (.ldc 50, 2) := by decide +kernel
theorem dX4_amount_45 : decode cX4_amount 45 = .ok (.ireturn, 1) := by decide +kernel
theorem dX4_amount_46 : decode cX4_amount 46 = .ok (.aload_n 0, 1) := by decide +kernel
theorem dX4_amount_47 : decode cX4_amount 47 = .ok (.aload_n 0, 1) := by decide +kernel
theorem dX4_amount_48 : decode cX4_amount 48 = .ok (.getfield 10, 3) := by decide +kernel
theorem dX4_amount_51 : decode cX4_amount 51 = .ok (.getfield 86, 3) := by decide +kernel
theorem dX4_amount_54 : decode cX4_amount 54 = .ok (.iload_n 1, 1) := by decide +kernel
theorem dX4_amount_55 : decode cX4_amount 55 = .ok (.iconst 4, 1) := by decide +kernel
theorem dX4_amount_56 : decode cX4_amount 56 = .ok (.imul, 1) := by decide +kernel
theorem dX4_amount_57 : decode cX4_amount 57 = .ok (.iload_n 2, 1) := by decide +kernel
theorem dX4_amount_58 : decode cX4_amount 58 = .ok (.iadd, 1) := by decide +kernel
theorem dX4_amount_59 : decode cX4_amount 59 = .ok (.iload_n 3, 1) := by decide +kernel
theorem dX4_amount_60 : decode cX4_amount 60 = .ok (.invokevirtual 89, 3) := by decide +kernel
theorem dX4_amount_63 : decode cX4_amount 63 = .ok (.ireturn, 1) := by decide +kernel
theorem dX4_on_0 : decode cX4_on 0 = .ok (.aload_n 0, 1) := by decide +kernel
theorem dX4_on_1 : decode cX4_on 1 = .ok (.iload_n 1, 1) := by decide +kernel
theorem dX4_on_2 : decode cX4_on 2 = .ok (.invokevirtual 80, 3) := by decide +kernel
theorem dX4_on_5 : decode cX4_on 5 = .ok (.ifCond .ne 6, 3) := by decide +kernel
theorem dX4_on_8 : decode cX4_on 8 = .ok (.ldc 50, 2) := by decide +kernel
theorem dX4_on_10 : decode cX4_on 10 = .ok (.ireturn, 1) := by decide +kernel
theorem dX4_on_11 : decode cX4_on 11 = .ok (.aload_n 0, 1) := by decide +kernel
theorem dX4_on_12 : decode cX4_on 12 = .ok (.getfield 10, 3) := by decide +kernel
theorem dX4_on_15 : decode cX4_on 15 = .ok (.getfield 93, 3) := by decide +kernel
theorem dX4_on_18 : decode cX4_on 18 = .ok (.iload_n 1, 1) := by decide +kernel
theorem dX4_on_19 : decode cX4_on 19 = .ok (.baload, 1) := by decide +kernel
theorem dX4_on_20 : decode cX4_on 20 = .ok (.istore_n 3, 1) := by decide +kernel
theorem dX4_on_21 : decode cX4_on 21 = .ok (.aload_n 0, 1) := by decide +kernel
theorem dX4_on_22 : decode cX4_on 22 = .ok (.getfield 10, 3) := by decide +kernel
theorem dX4_on_25 : decode cX4_on 25 = .ok (.getfield 93, 3) := by decide +kernel
theorem dX4_on_28 : decode cX4_on 28 = .ok (.iload_n 1, 1) := by decide +kernel
theorem dX4_on_29 : decode cX4_on 29 = .ok (.iload_n 2, 1) := by decide +kernel
theorem dX4_on_30 : decode cX4_on 30 = .ok (.bastore, 1) := by decide +kernel
theorem dX4_on_31 : decode cX4_on 31 = .ok (.aload_n 0, 1) := by decide +kernel
theorem dX4_on_32 : decode cX4_on 32 = .ok (.invokevirtual 56, 3) := by decide +kernel
theorem dX4_on_35 : decode cX4_on 35 = .ok (.iload_n 3, 1) := by decide +kernel
theorem dX4_on_36 : decode cX4_on 36 = .ok (.ifCond .eq 7, 3) := by decide +kernel
theorem dX4_on_39 : decode cX4_on 39 = .ok (.iconst 1, 1) := by decide +kernel
theorem dX4_on_40 : decode cX4_on 40 = .ok (.goto 4, 3) := by decide +kernel
theorem dX4_on_43 : decode cX4_on 43 = .ok (.iconst 0, 1) := by decide +kernel
theorem dX4_on_44 : decode cX4_on 44 = .ok (.ireturn, 1) := by decide +kernel
theorem dX4_set_0 : decode cX4_set 0 = .ok (.iload_n 1, 1) := by decide +kernel
theorem dX4_set_1 : decode cX4_set 1 = .ok (.tableswitch 139 0 2 #[27, 71, 105], 27) := by decide +kernel
theorem dX4_set_28 : decode cX4_set 28 = .ok (.aload_n 0, 1) := by decide +kernel
theorem dX4_set_29 : decode cX4_set 29 = .ok (.iload_n 2, 1) := by decide +kernel
theorem dX4_set_30 : decode cX4_set 30 = .ok (.invokevirtual 80, 3) := by decide +kernel
theorem dX4_set_33 : decode cX4_set 33 = .ok (.ifCond .eq 36, 3) := by decide +kernel
theorem dX4_set_36 : decode cX4_set 36 = .ok (.aload_n 0, 1) := by decide +kernel
theorem dX4_set_37 : decode cX4_set 37 = .ok (.getfield 10, 3) := by decide +kernel
theorem dX4_set_40 : decode cX4_set 40 = .ok (.getfield 83, 3) := by decide +kernel
theorem dX4_set_43 : decode cX4_set 43 = .ok (.iload_n 2, 1) := by decide +kernel
theorem dX4_set_44 : decode cX4_set 44 = .ok (.iaload, 1) := by decide +kernel
theorem dX4_set_45 : decode cX4_set 45 = .ok (.iload_n 3, 1) := by decide +kernel
theorem dX4_set_46 : decode cX4_set 46 = .ok (.i2l, 1) := by decide +kernel
theorem dX4_set_47 : decode cX4_set 47 = .ok (.invokestatic 63, 3) := by decide +kernel
theorem dX4_set_50 : decode cX4_set 50 = .ok (.ifCond .eq 19, 3) := by decide +kernel
theorem dX4_set_53 : decode cX4_set 53 = .ok (.aload_n 0, 1) := by decide +kernel
theorem dX4_set_54 : decode cX4_set 54 = .ok (.aload_n 0, 1) := by decide +kernel
theorem dX4_set_55 : decode cX4_set 55 = .ok (.getfield 10, 3) := by decide +kernel
theorem dX4_set_58 : decode cX4_set 58 = .ok (.getfield 97, 3) := by decide +kernel
theorem dX4_set_61 : decode cX4_set 61 = .ok (.iload_n 2, 1) := by decide +kernel
theorem dX4_set_62 : decode cX4_set 62 = .ok (.iload_n 3, 1) := by decide +kernel
theorem dX4_set_63 : decode cX4_set 63 = .ok (.invokevirtual 89, 3) := by decide +kernel
theorem dX4_set_66 : decode cX4_set 66 = .ok (.goto 5, 3) := by decide +kernel
theorem dX4_set_69 : decode cX4_set 69 = .ok (.ldc 50, 2) := by decide +kernel
theorem dX4_set_71 : decode cX4_set 71 = .ok (.ireturn, 1) := by decide +kernel
theorem dX4_set_72 : decode cX4_set 72 = .ok (.aload_n 0, 1) := by decide +kernel
theorem dX4_set_73 : decode cX4_set 73 = .ok (.iload_n 2, 1) := by decide +kernel
theorem dX4_set_74 : decode cX4_set 74 = .ok (.invokevirtual 67, 3) := by decide +kernel
theorem dX4_set_77 : decode cX4_set 77 = .ok (.ifCond .eq 26, 3) := by decide +kernel
theorem dX4_set_80 : decode cX4_set 80 = .ok (.iload_n 3, 1) := by decide +kernel
theorem dX4_set_81 : decode cX4_set 81 = .ok (.invokestatic 43, 3) := by decide +kernel
theorem dX4_set_84 : decode cX4_set 84 = .ok (.ifCond .eq 19, 3) := by decide +kernel
theorem dX4_set_87 : decode cX4_set 87 = .ok (.aload_n 0, 1) := by decide +kernel
theorem dX4_set_88 : decode cX4_set 88 = .ok (.aload_n 0, 1) := by decide +kernel
theorem dX4_set_89 : decode cX4_set 89 = .ok (.getfield 10, 3) := by decide +kernel
theorem dX4_set_92 : decode cX4_set 92 = .ok (.getfield 100, 3) := by decide +kernel
theorem dX4_set_95 : decode cX4_set 95 = .ok (.iload_n 2, 1) := by decide +kernel
theorem dX4_set_96 : decode cX4_set 96 = .ok (.iload_n 3, 1) := by decide +kernel
theorem dX4_set_97 : decode cX4_set 97 = .ok (.invokevirtual 89, 3) := by decide +kernel
theorem dX4_set_100 : decode cX4_set 100 = .ok (.goto 5, 3) := by decide +kernel
theorem dX4_set_103 : decode cX4_set 103 = .ok (.ldc 50, 2) := by decide +kernel
theorem dX4_set_105 : decode cX4_set 105 = .ok (.ireturn, 1) := by decide +kernel
theorem dX4_set_106 : decode cX4_set 106 = .ok (.aload_n 0, 1) := by decide +kernel
theorem dX4_set_107 : decode cX4_set 107 = .ok (.iload_n 2, 1) := by decide +kernel
theorem dX4_set_108 : decode cX4_set 108 = .ok (.invokevirtual 67, 3) := by decide +kernel
theorem dX4_set_111 : decode cX4_set 111 = .ok (.ifCond .eq 26, 3) := by decide +kernel
theorem dX4_set_114 : decode cX4_set 114 = .ok (.iload_n 3, 1) := by decide +kernel
theorem dX4_set_115 : decode cX4_set 115 = .ok (.invokestatic 47, 3) := by decide +kernel
theorem dX4_set_118 : decode cX4_set 118 = .ok (.ifCond .eq 19, 3) := by decide +kernel
theorem dX4_set_121 : decode cX4_set 121 = .ok (.aload_n 0, 1) := by decide +kernel
theorem dX4_set_122 : decode cX4_set 122 = .ok (.aload_n 0, 1) := by decide +kernel
theorem dX4_set_123 : decode cX4_set 123 = .ok (.getfield 10, 3) := by decide +kernel
theorem dX4_set_126 : decode cX4_set 126 = .ok (.getfield 103, 3) := by decide +kernel
theorem dX4_set_129 : decode cX4_set 129 = .ok (.iload_n 2, 1) := by decide +kernel
theorem dX4_set_130 : decode cX4_set 130 = .ok (.iload_n 3, 1) := by decide +kernel
theorem dX4_set_131 : decode cX4_set 131 = .ok (.invokevirtual 89, 3) := by decide +kernel
theorem dX4_set_134 : decode cX4_set 134 = .ok (.goto 5, 3) := by decide +kernel
theorem dX4_set_137 : decode cX4_set 137 = .ok (.ldc 50, 2) := by decide +kernel
theorem dX4_set_139 : decode cX4_set 139 = .ok (.ireturn, 1) := by decide +kernel
theorem dX4_set_140 : decode cX4_set 140 = .ok (.ldc 50, 2) := by decide +kernel
theorem dX4_set_142 : decode cX4_set 142 = .ok (.ireturn, 1) := by decide +kernel
theorem dX4_value_0 : decode cX4_value 0 = .ok (.aload_n 0, 1) := by decide +kernel
theorem dX4_value_1 : decode cX4_value 1 = .ok (.invokevirtual 106, 3) := by decide +kernel
theorem dX4_value_4 : decode cX4_value 4 = .ok (.getfield 110, 3) := by decide +kernel
theorem dX4_value_7 : decode cX4_value 7 = .ok (.ireturn, 1) := by decide +kernel
theorem dX4_counted_0 : decode cX4_counted 0 = .ok (.iload_n 1, 1) := by decide +kernel
theorem dX4_counted_1 : decode cX4_counted 1 = .ok (.tableswitch 51 0 2 #[27, 35, 43], 27) := by decide +kernel
theorem dX4_counted_28 : decode cX4_counted 28 = .ok (.aload_n 0, 1) := by decide +kernel
theorem dX4_counted_29 : decode cX4_counted 29 = .ok (.invokevirtual 106, 3) := by decide +kernel
theorem dX4_counted_32 : decode cX4_counted 32 = .ok (.getfield 113, 3) := by decide +kernel
theorem dX4_counted_35 : decode cX4_counted 35 = .ok (.ireturn, 1) := by decide +kernel
theorem dX4_counted_36 : decode cX4_counted 36 = .ok (.aload_n 0, 1) := by decide +kernel
theorem dX4_counted_37 : decode cX4_counted 37 = .ok (.invokevirtual 106, 3) := by decide +kernel
theorem dX4_counted_40 : decode cX4_counted 40 = .ok (.getfield 116, 3) := by decide +kernel
theorem dX4_counted_43 : decode cX4_counted 43 = .ok (.ireturn, 1) := by decide +kernel
theorem dX4_counted_44 : decode cX4_counted 44 = .ok (.aload_n 0, 1) := by decide +kernel
theorem dX4_counted_45 : decode cX4_counted 45 = .ok (.invokevirtual 106, 3) := by decide +kernel
theorem dX4_counted_48 : decode cX4_counted 48 = .ok (.getfield 119, 3) := by decide +kernel
theorem dX4_counted_51 : decode cX4_counted 51 = .ok (.ireturn, 1) := by decide +kernel
theorem dX4_counted_52 : decode cX4_counted 52 = .ok (.ldc 50, 2) := by decide +kernel
theorem dX4_counted_54 : decode cX4_counted 54 = .ok (.ireturn, 1) := by decide +kernel
theorem dX4_first_0 : decode cX4_first 0 = .ok (.aload_n 0, 1) := by decide +kernel
theorem dX4_first_1 : decode cX4_first 1 = .ok (.iload_n 1, 1) := by decide +kernel
theorem dX4_first_2 : decode cX4_first 2 = .ok (.invokevirtual 67, 3) := by decide +kernel
theorem dX4_first_5 : decode cX4_first 5 = .ok (.ifCond .eq 15, 3) := by decide +kernel
theorem dX4_first_8 : decode cX4_first 8 = .ok (.aload_n 0, 1) := by decide +kernel
theorem dX4_first_9 : decode cX4_first 9 = .ok (.invokevirtual 106, 3) := by decide +kernel
theorem dX4_first_12 : decode cX4_first 12 = .ok (.getfield 122, 3) := by decide +kernel
theorem dX4_first_15 : decode cX4_first 15 = .ok (.iload_n 1, 1) := by decide +kernel
theorem dX4_first_16 : decode cX4_first 16 = .ok (.iaload, 1) := by decide +kernel
theorem dX4_first_17 : decode cX4_first 17 = .ok (.goto 5, 3) := by decide +kernel
theorem dX4_first_20 : decode cX4_first 20 = .ok (.ldc 50, 2) := by decide +kernel
theorem dX4_first_22 : decode cX4_first 22 = .ok (.ireturn, 1) := by decide +kernel
theorem dX4_fast_0 : decode cX4_fast 0 = .ok (.aload_n 0, 1) := by decide +kernel
theorem dX4_fast_1 : decode cX4_fast 1 = .ok (.iload_n 1, 1) := by decide +kernel
theorem dX4_fast_2 : decode cX4_fast 2 = .ok (.invokevirtual 67, 3) := by decide +kernel
theorem dX4_fast_5 : decode cX4_fast 5 = .ok (.ifCond .ne 6, 3) := by decide +kernel
theorem dX4_fast_8 : decode cX4_fast 8 = .ok (.ldc 50, 2) := by decide +kernel
theorem dX4_fast_10 : decode cX4_fast 10 = .ok (.ireturn, 1) := by decide +kernel
theorem dX4_fast_11 : decode cX4_fast 11 = .ok (.aload_n 0, 1) := by decide +kernel
theorem dX4_fast_12 : decode cX4_fast 12 = .ok (.invokevirtual 106, 3) := by decide +kernel
theorem dX4_fast_15 : decode cX4_fast 15 = .ok (.getfield 125, 3) := by decide +kernel
theorem dX4_fast_18 : decode cX4_fast 18 = .ok (.iload_n 1, 1) := by decide +kernel
theorem dX4_fast_19 : decode cX4_fast 19 = .ok (.baload, 1) := by decide +kernel
theorem dX4_fast_20 : decode cX4_fast 20 = .ok (.ifCond .eq 7, 3) := by decide +kernel
theorem dX4_fast_23 : decode cX4_fast 23 = .ok (.iconst 1, 1) := by decide +kernel
theorem dX4_fast_24 : decode cX4_fast 24 = .ok (.goto 4, 3) := by decide +kernel
theorem dX4_fast_27 : decode cX4_fast 27 = .ok (.iconst 0, 1) := by decide +kernel
theorem dX4_fast_28 : decode cX4_fast 28 = .ok (.ireturn, 1) := by decide +kernel
theorem dX4_price_0 : decode cX4_price 0 = .ok (.aload_n 0, 1) := by decide +kernel
theorem dX4_price_1 : decode cX4_price 1 = .ok (.iload_n 1, 1) := by decide +kernel
theorem dX4_price_2 : decode cX4_price 2 = .ok (.invokevirtual 80, 3) := by decide +kernel
theorem dX4_price_5 : decode cX4_price 5 = .ok (.ifCond .eq 31, 3) := by decide +kernel
theorem dX4_price_8 : decode cX4_price 8 = .ok (.aload_n 0, 1) := by decide +kernel
theorem dX4_price_9 : decode cX4_price 9 = .ok (.getfield 10, 3) := by decide +kernel
theorem dX4_price_12 : decode cX4_price 12 = .ok (.getfield 83, 3) := by decide +kernel
theorem dX4_price_15 : decode cX4_price 15 = .ok (.iload_n 1, 1) := by decide +kernel
theorem dX4_price_16 : decode cX4_price 16 = .ok (.iaload, 1) := by decide +kernel
theorem dX4_price_17 : decode cX4_price 17 = .ok (.aload_n 0, 1) := by decide +kernel
theorem dX4_price_18 : decode cX4_price 18 = .ok (.getfield 10, 3) := by decide +kernel
theorem dX4_price_21 : decode cX4_price 21 = .ok (.getfield 97, 3) := by decide +kernel
theorem dX4_price_24 : decode cX4_price 24 = .ok (.iload_n 1, 1) := by decide +kernel
theorem dX4_price_25 : decode cX4_price 25 = .ok (.iaload, 1) := by decide +kernel
theorem dX4_price_26 : decode cX4_price 26 = .ok (.i2l, 1) := by decide +kernel
theorem dX4_price_27 : decode cX4_price 27 = .ok (.iload_n 2, 1) := by decide +kernel
theorem dX4_price_28 : decode cX4_price 28 = .ok (.i2l, 1) := by decide +kernel
theorem dX4_price_29 : decode cX4_price 29 = .ok (.ladd, 1) := by decide +kernel
theorem dX4_price_30 : decode cX4_price 30 = .ok (.invokestatic 63, 3) := by decide +kernel
theorem dX4_price_33 : decode cX4_price 33 = .ok (.ifCond .ne 6, 3) := by decide +kernel
theorem dX4_price_36 : decode cX4_price 36 = .ok (.ldc 50, 2) := by decide +kernel
theorem dX4_price_38 : decode cX4_price 38 = .ok (.ireturn, 1) := by decide +kernel
theorem dX4_price_39 : decode cX4_price 39 = .ok (.aload_n 0, 1) := by decide +kernel
theorem dX4_price_40 : decode cX4_price 40 = .ok (.getfield 10, 3) := by decide +kernel
theorem dX4_price_43 : decode cX4_price 43 = .ok (.getfield 93, 3) := by decide +kernel
theorem dX4_price_46 : decode cX4_price 46 = .ok (.iload_n 1, 1) := by decide +kernel
theorem dX4_price_47 : decode cX4_price 47 = .ok (.baload, 1) := by decide +kernel
theorem dX4_price_48 : decode cX4_price 48 = .ok (.ifCond .ne 5, 3) := by decide +kernel
theorem dX4_price_51 : decode cX4_price 51 = .ok (.iconst 0, 1) := by decide +kernel
theorem dX4_price_52 : decode cX4_price 52 = .ok (.ireturn, 1) := by decide +kernel
theorem dX4_price_53 : decode cX4_price 53 = .ok (.aload_n 0, 1) := by decide +kernel
theorem dX4_price_54 : decode cX4_price 54 = .ok (.invokevirtual 106, 3) := by decide +kernel
theorem dX4_price_57 : decode cX4_price 57 = .ok (.getfield 110, 3) := by decide +kernel
theorem dX4_price_60 : decode cX4_price 60 = .ok (.istore_n 3, 1) := by decide +kernel
theorem dX4_price_61 : decode cX4_price 61 = .ok (.aload_n 0, 1) := by decide +kernel
theorem dX4_price_62 : decode cX4_price 62 = .ok (.getfield 21, 3) := by decide +kernel
theorem dX4_price_65 : decode cX4_price 65 = .ok (.invokevirtual 128, 3) := by decide +kernel
theorem dX4_price_68 : decode cX4_price 68 = .ok (.aload_n 0, 1) := by decide +kernel
theorem dX4_price_69 : decode cX4_price 69 = .ok (.getfield 21, 3) := by decide +kernel
theorem dX4_price_72 : decode cX4_price 72 = .ok (.iload_n 1, 1) := by decide +kernel
theorem dX4_price_73 : decode cX4_price 73 = .ok (.iload_n 2, 1) := by decide +kernel
theorem dX4_price_74 : decode cX4_price 74 = .ok (.invokevirtual 131, 3) := by decide +kernel
theorem dX4_price_77 : decode cX4_price 77 = .ok (.aload_n 0, 1) := by decide +kernel
theorem dX4_price_78 : decode cX4_price 78 = .ok (.getfield 21, 3) := by decide +kernel
theorem dX4_price_81 : decode cX4_price 81 = .ok (.invokevirtual 135, 3) := by decide +kernel
theorem dX4_price_84 : decode cX4_price 84 = .ok (.iload_n 3, 1) := by decide +kernel
theorem dX4_price_85 : decode cX4_price 85 = .ok (.isub, 1) := by decide +kernel
theorem dX4_price_86 : decode cX4_price 86 = .ok (.ireturn, 1) := by decide +kernel
theorem dX4_weight_0 : decode cX4_weight 0 = .ok (.aload_n 0, 1) := by decide +kernel
theorem dX4_weight_1 : decode cX4_weight 1 = .ok (.iload_n 1, 1) := by decide +kernel
theorem dX4_weight_2 : decode cX4_weight 2 = .ok (.invokevirtual 80, 3) := by decide +kernel
theorem dX4_weight_5 : decode cX4_weight 5 = .ok (.ifCond .eq 14, 3) := by decide +kernel
theorem dX4_weight_8 : decode cX4_weight 8 = .ok (.aload_n 0, 1) := by decide +kernel
theorem dX4_weight_9 : decode cX4_weight 9 = .ok (.invokevirtual 106, 3) := by decide +kernel
theorem dX4_weight_12 : decode cX4_weight 12 = .ok (.iload_n 1, 1) := by decide +kernel
theorem dX4_weight_13 : decode cX4_weight 13 = .ok (.invokevirtual 139, 3) := by decide +kernel
theorem dX4_weight_16 : decode cX4_weight 16 = .ok (.goto 5, 3) := by decide +kernel
theorem dX4_weight_19 : decode cX4_weight 19 = .ok (.ldc 50, 2) := by decide +kernel
theorem dX4_weight_21 : decode cX4_weight 21 = .ok (.ireturn, 1) := by decide +kernel
theorem dX4_rank_0 : decode cX4_rank 0 = .ok (.aload_n 0, 1) := by decide +kernel
theorem dX4_rank_1 : decode cX4_rank 1 = .ok (.iload_n 1, 1) := by decide +kernel
theorem dX4_rank_2 : decode cX4_rank 2 = .ok (.invokevirtual 80, 3) := by decide +kernel
theorem dX4_rank_5 : decode cX4_rank 5 = .ok (.ifCond .ne 6, 3) := by decide +kernel
theorem dX4_rank_8 : decode cX4_rank 8 = .ok (.ldc 50, 2) := by decide +kernel
theorem dX4_rank_10 : decode cX4_rank 10 = .ok (.ireturn, 1) := by decide +kernel
theorem dX4_rank_11 : decode cX4_rank 11 = .ok (.aload_n 0, 1) := by decide +kernel
theorem dX4_rank_12 : decode cX4_rank 12 = .ok (.invokevirtual 106, 3) := by decide +kernel
theorem dX4_rank_15 : decode cX4_rank 15 = .ok (.astore_n 2, 1) := by decide +kernel
theorem dX4_rank_16 : decode cX4_rank 16 = .ok (.iconst 0, 1) := by decide +kernel
theorem dX4_rank_17 : decode cX4_rank 17 = .ok (.istore_n 3, 1) := by decide +kernel
theorem dX4_rank_18 : decode cX4_rank 18 = .ok (.iload_n 3, 1) := by decide +kernel
theorem dX4_rank_19 : decode cX4_rank 19 = .ok (.aload_n 0, 1) := by decide +kernel
theorem dX4_rank_20 : decode cX4_rank 20 = .ok (.getfield 10, 3) := by decide +kernel
theorem dX4_rank_23 : decode cX4_rank 23 = .ok (.getfield 70, 3) := by decide +kernel
theorem dX4_rank_26 : decode cX4_rank 26 = .ok (.if_icmp .ge 27, 3) := by decide +kernel
theorem dX4_rank_29 : decode cX4_rank 29 = .ok (.aload_n 2, 1) := by decide +kernel
theorem dX4_rank_30 : decode cX4_rank 30 = .ok (.iload_n 3, 1) := by decide +kernel
theorem dX4_rank_31 : decode cX4_rank 31 = .ok (.aload_n 0, 1) := by decide +kernel
theorem dX4_rank_32 : decode cX4_rank 32 = .ok (.getfield 10, 3) := by decide +kernel
theorem dX4_rank_35 : decode cX4_rank 35 = .ok (.getfield 70, 3) := by decide +kernel
theorem dX4_rank_38 : decode cX4_rank 38 = .ok (.invokevirtual 143, 3) := by decide +kernel
theorem dX4_rank_41 : decode cX4_rank 41 = .ok (.iload_n 1, 1) := by decide +kernel
theorem dX4_rank_42 : decode cX4_rank 42 = .ok (.if_icmp .ne 5, 3) := by decide +kernel
theorem dX4_rank_45 : decode cX4_rank 45 = .ok (.iload_n 3, 1) := by decide +kernel
theorem dX4_rank_46 : decode cX4_rank 46 = .ok (.ireturn, 1) := by decide +kernel
theorem dX4_rank_47 : decode cX4_rank 47 = .ok (.iinc 3 1, 3) := by decide +kernel
theorem dX4_rank_50 : decode cX4_rank 50 = .ok (.goto (-32), 3) := by decide +kernel
theorem dX4_rank_53 : decode cX4_rank 53 = .ok (.ldc 50, 2) := by decide +kernel
theorem dX4_rank_55 : decode cX4_rank 55 = .ok (.ireturn, 1) := by decide +kernel
theorem dX4_more_0 : decode cX4_more 0 = .ok (.aload_n 0, 1) := by decide +kernel
theorem dX4_more_1 : decode cX4_more 1 = .ok (.iload_n 1, 1) := by decide +kernel
theorem dX4_more_2 : decode cX4_more 2 = .ok (.invokevirtual 67, 3) := by decide +kernel
theorem dX4_more_5 : decode cX4_more 5 = .ok (.ifCond .eq 17, 3) := by decide +kernel
theorem dX4_more_8 : decode cX4_more 8 = .ok (.aload_n 0, 1) := by decide +kernel
theorem dX4_more_9 : decode cX4_more 9 = .ok (.getfield 10, 3) := by decide +kernel
theorem dX4_more_12 : decode cX4_more 12 = .ok (.getfield 103, 3) := by decide +kernel
theorem dX4_more_15 : decode cX4_more 15 = .ok (.iload_n 1, 1) := by decide +kernel
theorem dX4_more_16 : decode cX4_more 16 = .ok (.iaload, 1) := by decide +kernel
theorem dX4_more_17 : decode cX4_more 17 = .ok (.bipush 9, 2) := by decide +kernel
theorem dX4_more_19 : decode cX4_more 19 = .ok (.if_icmp .lt 6, 3) := by decide +kernel
theorem dX4_more_22 : decode cX4_more 22 = .ok (.ldc 50, 2) := by decide +kernel
theorem dX4_more_24 : decode cX4_more 24 = .ok (.ireturn, 1) := by decide +kernel
theorem dX4_more_25 : decode cX4_more 25 = .ok (.aload_n 0, 1) := by decide +kernel
theorem dX4_more_26 : decode cX4_more 26 = .ok (.invokevirtual 106, 3) := by decide +kernel
theorem dX4_more_29 : decode cX4_more 29 = .ok (.getfield 110, 3) := by decide +kernel
theorem dX4_more_32 : decode cX4_more 32 = .ok (.istore_n 2, 1) := by decide +kernel
theorem dX4_more_33 : decode cX4_more 33 = .ok (.aload_n 0, 1) := by decide +kernel
theorem dX4_more_34 : decode cX4_more 34 = .ok (.getfield 21, 3) := by decide +kernel
theorem dX4_more_37 : decode cX4_more 37 = .ok (.invokevirtual 128, 3) := by decide +kernel
theorem dX4_more_40 : decode cX4_more 40 = .ok (.aload_n 0, 1) := by decide +kernel
theorem dX4_more_41 : decode cX4_more 41 = .ok (.getfield 21, 3) := by decide +kernel
theorem dX4_more_44 : decode cX4_more 44 = .ok (.iload_n 1, 1) := by decide +kernel
theorem dX4_more_45 : decode cX4_more 45 = .ok (.invokevirtual 146, 3) := by decide +kernel
theorem dX4_more_48 : decode cX4_more 48 = .ok (.aload_n 0, 1) := by decide +kernel
theorem dX4_more_49 : decode cX4_more 49 = .ok (.getfield 21, 3) := by decide +kernel
theorem dX4_more_52 : decode cX4_more 52 = .ok (.invokevirtual 135, 3) := by decide +kernel
theorem dX4_more_55 : decode cX4_more 55 = .ok (.iload_n 2, 1) := by decide +kernel
theorem dX4_more_56 : decode cX4_more 56 = .ok (.isub, 1) := by decide +kernel
theorem dX4_more_57 : decode cX4_more 57 = .ok (.ireturn, 1) := by decide +kernel
theorem dX4_must_0 : decode cX4_must 0 = .ok (.aload_n 0, 1) := by decide +kernel
theorem dX4_must_1 : decode cX4_must 1 = .ok (.iload_n 1, 1) := by decide +kernel
theorem dX4_must_2 : decode cX4_must 2 = .ok (.invokevirtual 67, 3) := by decide +kernel
theorem dX4_must_5 : decode cX4_must 5 = .ok (.ifCond .eq 20, 3) := by decide +kernel
theorem dX4_must_8 : decode cX4_must 8 = .ok (.iload_n 2, 1) := by decide +kernel
theorem dX4_must_9 : decode cX4_must 9 = .ok (.ifCond .lt 16, 3) := by decide +kernel
theorem dX4_must_12 : decode cX4_must 12 = .ok (.iload_n 2, 1) := by decide +kernel
theorem dX4_must_13 : decode cX4_must 13 = .ok (.aload_n 0, 1) := by decide +kernel
theorem dX4_must_14 : decode cX4_must 14 = .ok (.getfield 10, 3) := by decide +kernel
theorem dX4_must_17 : decode cX4_must 17 = .ok (.getfield 103, 3) := by decide +kernel
theorem dX4_must_20 : decode cX4_must 20 = .ok (.iload_n 1, 1) := by decide +kernel
theorem dX4_must_21 : decode cX4_must 21 = .ok (.iaload, 1) := by decide +kernel
theorem dX4_must_22 : decode cX4_must 22 = .ok (.if_icmp .le 6, 3) := by decide +kernel
theorem dX4_must_25 : decode cX4_must 25 = .ok (.ldc 50, 2) := by decide +kernel
theorem dX4_must_27 : decode cX4_must 27 = .ok (.ireturn, 1) := by decide +kernel
theorem dX4_must_28 : decode cX4_must 28 = .ok (.aload_n 0, 1) := by decide +kernel
theorem dX4_must_29 : decode cX4_must 29 = .ok (.invokevirtual 106, 3) := by decide +kernel
theorem dX4_must_32 : decode cX4_must 32 = .ok (.iload_n 1, 1) := by decide +kernel
theorem dX4_must_33 : decode cX4_must 33 = .ok (.iload_n 2, 1) := by decide +kernel
theorem dX4_must_34 : decode cX4_must 34 = .ok (.invokevirtual 150, 3) := by decide +kernel
theorem dX4_must_37 : decode cX4_must 37 = .ok (.ireturn, 1) := by decide +kernel
theorem dX4_span_0 : decode cX4_span 0 = .ok (.aload_n 0, 1) := by decide +kernel
theorem dX4_span_1 : decode cX4_span 1 = .ok (.iload_n 1, 1) := by decide +kernel
theorem dX4_span_2 : decode cX4_span 2 = .ok (.invokevirtual 67, 3) := by decide +kernel
theorem dX4_span_5 : decode cX4_span 5 = .ok (.ifCond .ne 6, 3) := by decide +kernel
theorem dX4_span_8 : decode cX4_span 8 = .ok (.ldc 50, 2) := by decide +kernel
theorem dX4_span_10 : decode cX4_span 10 = .ok (.ireturn, 1) := by decide +kernel
theorem dX4_span_11 : decode cX4_span 11 = .ok (.aload_n 0, 1) := by decide +kernel
theorem dX4_span_12 : decode cX4_span 12 = .ok (.invokevirtual 106, 3) := by decide +kernel
theorem dX4_span_15 : decode cX4_span 15 = .ok (.astore_n 3, 1) := by decide +kernel
theorem dX4_span_16 : decode cX4_span 16 = .ok (.iload_n 2, 1) := by decide +kernel
theorem dX4_span_17 : decode cX4_span 17 = .ok (.ifCond .eq 20, 3) := by decide +kernel
theorem dX4_span_20 : decode cX4_span 20 = .ok (.aload_n 3, 1) := by decide +kernel
theorem dX4_span_21 : decode cX4_span 21 = .ok (.iload_n 1, 1) := by decide +kernel
theorem dX4_span_22 : decode cX4_span 22 = .ok (.aload_n 0, 1) := by decide +kernel
theorem dX4_span_23 : decode cX4_span 23 = .ok (.getfield 10, 3) := by decide +kernel
theorem dX4_span_26 : decode cX4_span 26 = .ok (.getfield 100, 3) := by decide +kernel
theorem dX4_span_29 : decode cX4_span 29 = .ok (.iload_n 1, 1) := by decide +kernel
theorem dX4_span_30 : decode cX4_span 30 = .ok (.iaload, 1) := by decide +kernel
theorem dX4_span_31 : decode cX4_span 31 = .ok (.invokevirtual 153, 3) := by decide +kernel
theorem dX4_span_34 : decode cX4_span 34 = .ok (.goto 17, 3) := by decide +kernel
theorem dX4_span_37 : decode cX4_span 37 = .ok (.aload_n 3, 1) := by decide +kernel
theorem dX4_span_38 : decode cX4_span 38 = .ok (.iload_n 1, 1) := by decide +kernel
theorem dX4_span_39 : decode cX4_span 39 = .ok (.aload_n 0, 1) := by decide +kernel
theorem dX4_span_40 : decode cX4_span 40 = .ok (.getfield 10, 3) := by decide +kernel
theorem dX4_span_43 : decode cX4_span 43 = .ok (.getfield 100, 3) := by decide +kernel
theorem dX4_span_46 : decode cX4_span 46 = .ok (.iload_n 1, 1) := by decide +kernel
theorem dX4_span_47 : decode cX4_span 47 = .ok (.iaload, 1) := by decide +kernel
theorem dX4_span_48 : decode cX4_span 48 = .ok (.invokevirtual 156, 3) := by decide +kernel
theorem dX4_span_51 : decode cX4_span 51 = .ok (.ireturn, 1) := by decide +kernel
theorem dX4_put_0 : decode cX4_put 0 = .ok (.aload_n 0, 1) := by decide +kernel
theorem dX4_put_1 : decode cX4_put 1 = .ok (.iload_n 1, 1) := by decide +kernel
theorem dX4_put_2 : decode cX4_put 2 = .ok (.invokevirtual 67, 3) := by decide +kernel
theorem dX4_put_5 : decode cX4_put 5 = .ok (.ifCond .eq 10, 3) := by decide +kernel
theorem dX4_put_8 : decode cX4_put 8 = .ok (.iload_n 2, 1) := by decide +kernel
theorem dX4_put_9 : decode cX4_put 9 = .ok (.invokestatic 47, 3) := by decide +kernel
theorem dX4_put_12 : decode cX4_put 12 = .ok (.ifCond .ne 6, 3) := by decide +kernel
theorem dX4_put_15 : decode cX4_put 15 = .ok (.ldc 50, 2) := by decide +kernel
theorem dX4_put_17 : decode cX4_put 17 = .ok (.ireturn, 1) := by decide +kernel
theorem dX4_put_18 : decode cX4_put 18 = .ok (.aload_n 0, 1) := by decide +kernel
theorem dX4_put_19 : decode cX4_put 19 = .ok (.getfield 39, 3) := by decide +kernel
theorem dX4_put_22 : decode cX4_put 22 = .ok (.iload_n 1, 1) := by decide +kernel
theorem dX4_put_23 : decode cX4_put 23 = .ok (.iaload, 1) := by decide +kernel
theorem dX4_put_24 : decode cX4_put 24 = .ok (.istore_n 3, 1) := by decide +kernel
theorem dX4_put_25 : decode cX4_put 25 = .ok (.aload_n 0, 1) := by decide +kernel
theorem dX4_put_26 : decode cX4_put 26 = .ok (.getfield 39, 3) := by decide +kernel
theorem dX4_put_29 : decode cX4_put 29 = .ok (.iload_n 1, 1) := by decide +kernel
theorem dX4_put_30 : decode cX4_put 30 = .ok (.iload_n 2, 1) := by decide +kernel
theorem dX4_put_31 : decode cX4_put 31 = .ok (.iastore, 1) := by decide +kernel
theorem dX4_put_32 : decode cX4_put 32 = .ok (.iload_n 3, 1) := by decide +kernel
theorem dX4_put_33 : decode cX4_put 33 = .ok (.ireturn, 1) := by decide +kernel
theorem dX4_worth_0 : decode cX4_worth 0 = .ok (.aload_n 0, 1) := by decide +kernel
theorem dX4_worth_1 : decode cX4_worth 1 = .ok (.getfield 21, 3) := by decide +kernel
theorem dX4_worth_4 : decode cX4_worth 4 = .ok (.invokevirtual 128, 3) := by decide +kernel
theorem dX4_worth_7 : decode cX4_worth 7 = .ok (.aload_n 0, 1) := by decide +kernel
theorem dX4_worth_8 : decode cX4_worth 8 = .ok (.getfield 21, 3) := by decide +kernel
theorem dX4_worth_11 : decode cX4_worth 11 = .ok (.aload_n 0, 1) := by decide +kernel
theorem dX4_worth_12 : decode cX4_worth 12 = .ok (.getfield 39, 3) := by decide +kernel
theorem dX4_worth_15 : decode cX4_worth 15 = .ok (.invokevirtual 159, 3) := by decide +kernel
theorem dX4_worth_18 : decode cX4_worth 18 = .ok (.aload_n 0, 1) := by decide +kernel
theorem dX4_worth_19 : decode cX4_worth 19 = .ok (.getfield 21, 3) := by decide +kernel
theorem dX4_worth_22 : decode cX4_worth 22 = .ok (.getfield 163, 3) := by decide +kernel
theorem dX4_worth_25 : decode cX4_worth 25 = .ok (.ireturn, 1) := by decide +kernel
theorem dX4_broken_0 : decode cX4_broken 0 = .ok (.iconst 0, 1) := by decide +kernel
theorem dX4_broken_1 : decode cX4_broken 1 = .ok (.istore_n 1, 1) := by decide +kernel
theorem dX4_broken_2 : decode cX4_broken 2 = .ok (.iload_n 1, 1) := by decide +kernel
theorem dX4_broken_3 : decode cX4_broken 3 = .ok (.aload_n 0, 1) := by decide +kernel
theorem dX4_broken_4 : decode cX4_broken 4 = .ok (.getfield 10, 3) := by decide +kernel
theorem dX4_broken_7 : decode cX4_broken 7 = .ok (.getfield 51, 3) := by decide +kernel
theorem dX4_broken_10 : decode cX4_broken 10 = .ok (.if_icmp .ge 32, 3) := by decide +kernel
theorem dX4_broken_13 : decode cX4_broken 13 = .ok (.aload_n 0, 1) := by decide +kernel
theorem dX4_broken_14 : decode cX4_broken 14 = .ok (.getfield 39, 3) := by decide +kernel
theorem dX4_broken_17 : decode cX4_broken 17 = .ok (.iload_n 1, 1) := by decide +kernel
theorem dX4_broken_18 : decode cX4_broken 18 = .ok (.iaload, 1) := by decide +kernel
theorem dX4_broken_19 : decode cX4_broken 19 = .ok (.aload_n 0, 1) := by decide +kernel
theorem dX4_broken_20 : decode cX4_broken 20 = .ok (.getfield 10, 3) := by decide +kernel
theorem dX4_broken_23 : decode cX4_broken 23 = .ok (.getfield 103, 3) := by decide +kernel
theorem dX4_broken_26 : decode cX4_broken 26 = .ok (.iload_n 1, 1) := by decide +kernel
theorem dX4_broken_27 : decode cX4_broken 27 = .ok (.iaload, 1) := by decide +kernel
theorem dX4_broken_28 : decode cX4_broken 28 = .ok (.if_icmp .le 8, 3) := by decide +kernel
theorem dX4_broken_31 : decode cX4_broken 31 = .ok (.bipush 100, 2) := by decide +kernel
theorem dX4_broken_33 : decode cX4_broken 33 = .ok (.iload_n 1, 1) := by decide +kernel
theorem dX4_broken_34 : decode cX4_broken 34 = .ok (.iadd, 1) := by decide +kernel
theorem dX4_broken_35 : decode cX4_broken 35 = .ok (.ireturn, 1) := by decide +kernel
theorem dX4_broken_36 : decode cX4_broken 36 = .ok (.iinc 1 1, 3) := by decide +kernel
theorem dX4_broken_39 : decode cX4_broken 39 = .ok (.goto (-37), 3) := by decide +kernel
theorem dX4_broken_42 : decode cX4_broken 42 = .ok (.aload_n 0, 1) := by decide +kernel
theorem dX4_broken_43 : decode cX4_broken 43 = .ok (.getfield 21, 3) := by decide +kernel
theorem dX4_broken_46 : decode cX4_broken 46 = .ok (.invokevirtual 128, 3) := by decide +kernel
theorem dX4_broken_49 : decode cX4_broken 49 = .ok (.aload_n 0, 1) := by decide +kernel
theorem dX4_broken_50 : decode cX4_broken 50 = .ok (.getfield 21, 3) := by decide +kernel
theorem dX4_broken_53 : decode cX4_broken 53 = .ok (.aload_n 0, 1) := by decide +kernel
theorem dX4_broken_54 : decode cX4_broken 54 = .ok (.getfield 39, 3) := by decide +kernel
theorem dX4_broken_57 : decode cX4_broken 57 = .ok (.invokevirtual 159, 3) := by decide +kernel
theorem dX4_broken_60 : decode cX4_broken 60 = .ok (.aload_n 0, 1) := by decide +kernel
theorem dX4_broken_61 : decode cX4_broken 61 = .ok (.getfield 21, 3) := by decide +kernel
theorem dX4_broken_64 : decode cX4_broken 64 = .ok (.iconst 0, 1) := by decide +kernel
theorem dX4_broken_65 : decode cX4_broken 65 = .ok (.invokevirtual 166, 3) := by decide +kernel
theorem dX4_broken_68 : decode cX4_broken 68 = .ok (.ireturn, 1) := by decide +kernel
theorem dX4_share_0 : decode cX4_share 0 = .ok (.aload_n 0, 1) := by decide +kernel
theorem dX4_share_1 : decode cX4_share 1 = .ok (.invokevirtual 169, 3) := by decide +kernel
theorem dX4_share_4 : decode cX4_share 4 = .ok (.astore_n 2, 1) := by decide +kernel
theorem dX4_share_5 : decode cX4_share 5 = .ok (.aload_n 2, 1) := by decide +kernel
theorem dX4_share_6 : decode cX4_share 6 = .ok (.invokevirtual 173, 3) := by decide +kernel
theorem dX4_share_9 : decode cX4_share 9 = .ok (.istore_n 3, 1) := by decide +kernel
theorem dX4_share_10 : decode cX4_share 10 = .ok (.aload_n 2, 1) := by decide +kernel
theorem dX4_share_11 : decode cX4_share 11 = .ok (.getfield 176, 3) := by decide +kernel
theorem dX4_share_14 : decode cX4_share 14 = .ok (.iload_n 3, 1) := by decide +kernel
theorem dX4_share_15 : decode cX4_share 15 = .ok (.laload, 1) := by decide +kernel
theorem dX4_share_16 : decode cX4_share 16 = .ok (.aload_n 2, 1) := by decide +kernel
theorem dX4_share_17 : decode cX4_share 17 = .ok (.getfield 180, 3) := by decide +kernel
theorem dX4_share_20 : decode cX4_share 20 = .ok (.iload_n 3, 1) := by decide +kernel
theorem dX4_share_21 : decode cX4_share 21 = .ok (.laload, 1) := by decide +kernel
theorem dX4_share_22 : decode cX4_share 22 = .ok (.iload_n 1, 1) := by decide +kernel
theorem dX4_share_23 : decode cX4_share 23 = .ok (.invokestatic 183, 3) := by decide +kernel
theorem dX4_share_26 : decode cX4_share 26 = .ok (.lreturn, 1) := by decide +kernel
theorem dX4_sharePrice_0 : decode cX4_sharePrice 0 = .ok (.aload_n 0, 1) := by decide +kernel
theorem dX4_sharePrice_1 : decode cX4_sharePrice 1 = .ok (.iload_n 1, 1) := by decide +kernel
theorem dX4_sharePrice_2 : decode cX4_sharePrice 2 = .ok (.invokevirtual 80, 3) := by decide +kernel
theorem dX4_sharePrice_5 : decode cX4_sharePrice 5 = .ok (.ifCond .eq 16, 3) := by decide +kernel
theorem dX4_sharePrice_8 : decode cX4_sharePrice 8 = .ok (.aload_n 0, 1) := by decide +kernel
theorem dX4_sharePrice_9 : decode cX4_sharePrice 9 = .ok (.getfield 10, 3) := by decide +kernel
theorem dX4_sharePrice_12 : decode cX4_sharePrice 12 = .ok (.getfield 83, 3) := by decide +kernel
theorem dX4_sharePrice_15 : decode cX4_sharePrice 15 = .ok (.iload_n 1, 1) := by decide +kernel
theorem dX4_sharePrice_16 : decode cX4_sharePrice 16 = .ok (.iaload, 1) := by decide +kernel
theorem dX4_sharePrice_17 : decode cX4_sharePrice 17 = .ok (.iconst 2, 1) := by decide +kernel
theorem dX4_sharePrice_18 : decode cX4_sharePrice 18 = .ok (.if_icmp .ne 7, 3) := by decide +kernel
theorem dX4_sharePrice_21 : decode cX4_sharePrice 21 = .ok (.ldc2_w 187, 3) := by decide +kernel
theorem dX4_sharePrice_24 : decode cX4_sharePrice 24 = .ok (.lreturn, 1) := by decide +kernel
theorem dX4_sharePrice_25 : decode cX4_sharePrice 25 = .ok (.aload_n 0, 1) := by decide +kernel
theorem dX4_sharePrice_26 : decode cX4_sharePrice 26 = .ok (.getfield 10, 3) := by decide +kernel
theorem dX4_sharePrice_29 : decode cX4_sharePrice 29 = .ok (.getfield 93, 3) := by decide +kernel
theorem dX4_sharePrice_32 : decode cX4_sharePrice 32 = .ok (.iload_n 1, 1) := by decide +kernel
theorem dX4_sharePrice_33 : decode cX4_sharePrice 33 = .ok (.baload, 1) := by decide +kernel
theorem dX4_sharePrice_34 : decode cX4_sharePrice 34 = .ok (.ifCond .ne 13, 3) := by decide +kernel
theorem dX4_sharePrice_37 : decode cX4_sharePrice 37 = .ok (.iload_n 2, 1) := by decide +kernel
theorem dX4_sharePrice_38 : decode cX4_sharePrice 38 = .ok (.ifCond .eq 7, 3) := by decide +kernel
theorem dX4_sharePrice_41 : decode cX4_sharePrice 41 = .ok (.lconst 1, 1) := by decide +kernel
theorem dX4_sharePrice_42 : decode cX4_sharePrice 42 = .ok (.goto 4, 3) := by decide +kernel
theorem dX4_sharePrice_45 : decode cX4_sharePrice 45 = .ok (.lconst 0, 1) := by decide +kernel
theorem dX4_sharePrice_46 : decode cX4_sharePrice 46 = .ok (.lreturn, 1) := by decide +kernel
theorem dX4_sharePrice_47 : decode cX4_sharePrice 47 = .ok (.aload_n 0, 1) := by decide +kernel
theorem dX4_sharePrice_48 : decode cX4_sharePrice 48 = .ok (.invokevirtual 169, 3) := by decide +kernel
theorem dX4_sharePrice_51 : decode cX4_sharePrice 51 = .ok (.astore_n 3, 1) := by decide +kernel
theorem dX4_sharePrice_52 : decode cX4_sharePrice 52 = .ok (.aload_n 3, 1) := by decide +kernel
theorem dX4_sharePrice_53 : decode cX4_sharePrice 53 = .ok (.iload_n 1, 1) := by decide +kernel
theorem dX4_sharePrice_54 : decode cX4_sharePrice 54 = .ok (.invokevirtual 189, 3) := by decide +kernel
theorem dX4_sharePrice_57 : decode cX4_sharePrice 57 = .ok (.istore 4, 2) := by decide +kernel
theorem dX4_sharePrice_59 : decode cX4_sharePrice 59 = .ok (.aload_n 3, 1) := by decide +kernel
theorem dX4_sharePrice_60 : decode cX4_sharePrice 60 = .ok (.iload 4, 2) := by decide +kernel
theorem dX4_sharePrice_62 : decode cX4_sharePrice 62 = .ok (.iload_n 1, 1) := by decide +kernel
theorem dX4_sharePrice_63 : decode cX4_sharePrice 63 = .ok (.invokevirtual 192, 3) := by decide +kernel
theorem dX4_sharePrice_66 : decode cX4_sharePrice 66 = .ok (.aload_n 3, 1) := by decide +kernel
theorem dX4_sharePrice_67 : decode cX4_sharePrice 67 = .ok (.getfield 180, 3) := by decide +kernel
theorem dX4_sharePrice_70 : decode cX4_sharePrice 70 = .ok (.iload 4, 2) := by decide +kernel
theorem dX4_sharePrice_72 : decode cX4_sharePrice 72 = .ok (.laload, 1) := by decide +kernel
theorem dX4_sharePrice_73 : decode cX4_sharePrice 73 = .ok (.iload_n 2, 1) := by decide +kernel
theorem dX4_sharePrice_74 : decode cX4_sharePrice 74 = .ok (.invokestatic 183, 3) := by decide +kernel
theorem dX4_sharePrice_77 : decode cX4_sharePrice 77 = .ok (.lreturn, 1) := by decide +kernel
theorem dX4_holds_0 : decode cX4_holds 0 = .ok (.aload_n 0, 1) := by decide +kernel
theorem dX4_holds_1 : decode cX4_holds 1 = .ok (.iload_n 1, 1) := by decide +kernel
theorem dX4_holds_2 : decode cX4_holds 2 = .ok (.invokevirtual 80, 3) := by decide +kernel
theorem dX4_holds_5 : decode cX4_holds 5 = .ok (.ifCond .eq 16, 3) := by decide +kernel
theorem dX4_holds_8 : decode cX4_holds 8 = .ok (.aload_n 0, 1) := by decide +kernel
theorem dX4_holds_9 : decode cX4_holds 9 = .ok (.getfield 10, 3) := by decide +kernel
theorem dX4_holds_12 : decode cX4_holds 12 = .ok (.getfield 83, 3) := by decide +kernel
theorem dX4_holds_15 : decode cX4_holds 15 = .ok (.iload_n 1, 1) := by decide +kernel
theorem dX4_holds_16 : decode cX4_holds 16 = .ok (.iaload, 1) := by decide +kernel
theorem dX4_holds_17 : decode cX4_holds 17 = .ok (.iconst 2, 1) := by decide +kernel
theorem dX4_holds_18 : decode cX4_holds 18 = .ok (.if_icmp .ne 6, 3) := by decide +kernel
theorem dX4_holds_21 : decode cX4_holds 21 = .ok (.ldc 50, 2) := by decide +kernel
theorem dX4_holds_23 : decode cX4_holds 23 = .ok (.ireturn, 1) := by decide +kernel
theorem dX4_holds_24 : decode cX4_holds 24 = .ok (.aload_n 0, 1) := by decide +kernel
theorem dX4_holds_25 : decode cX4_holds 25 = .ok (.getfield 10, 3) := by decide +kernel
theorem dX4_holds_28 : decode cX4_holds 28 = .ok (.getfield 93, 3) := by decide +kernel
theorem dX4_holds_31 : decode cX4_holds 31 = .ok (.iload_n 1, 1) := by decide +kernel
theorem dX4_holds_32 : decode cX4_holds 32 = .ok (.baload, 1) := by decide +kernel
theorem dX4_holds_33 : decode cX4_holds 33 = .ok (.ifCond .ne 7, 3) := by decide +kernel
theorem dX4_holds_36 : decode cX4_holds 36 = .ok (.sipush 400, 3) := by decide +kernel
theorem dX4_holds_39 : decode cX4_holds 39 = .ok (.ireturn, 1) := by decide +kernel
theorem dX4_holds_40 : decode cX4_holds 40 = .ok (.aload_n 0, 1) := by decide +kernel
theorem dX4_holds_41 : decode cX4_holds 41 = .ok (.invokevirtual 169, 3) := by decide +kernel
theorem dX4_holds_44 : decode cX4_holds 44 = .ok (.astore_n 2, 1) := by decide +kernel
theorem dX4_holds_45 : decode cX4_holds 45 = .ok (.aload_n 2, 1) := by decide +kernel
theorem dX4_holds_46 : decode cX4_holds 46 = .ok (.aload_n 2, 1) := by decide +kernel
theorem dX4_holds_47 : decode cX4_holds 47 = .ok (.iload_n 1, 1) := by decide +kernel
theorem dX4_holds_48 : decode cX4_holds 48 = .ok (.invokevirtual 189, 3) := by decide +kernel
theorem dX4_holds_51 : decode cX4_holds 51 = .ok (.iload_n 1, 1) := by decide +kernel
theorem dX4_holds_52 : decode cX4_holds 52 = .ok (.invokevirtual 196, 3) := by decide +kernel
theorem dX4_holds_55 : decode cX4_holds 55 = .ok (.ireturn, 1) := by decide +kernel
theorem dX4_gap_0 : decode cX4_gap 0 = .ok (.aload_n 0, 1) := by decide +kernel
theorem dX4_gap_1 : decode cX4_gap 1 = .ok (.invokevirtual 169, 3) := by decide +kernel
theorem dX4_gap_4 : decode cX4_gap 4 = .ok (.astore_n 2, 1) := by decide +kernel
theorem dX4_gap_5 : decode cX4_gap 5 = .ok (.aload_n 2, 1) := by decide +kernel
theorem dX4_gap_6 : decode cX4_gap 6 = .ok (.invokevirtual 173, 3) := by decide +kernel
theorem dX4_gap_9 : decode cX4_gap 9 = .ok (.istore_n 3, 1) := by decide +kernel
theorem dX4_gap_10 : decode cX4_gap 10 = .ok (.aload_n 2, 1) := by decide +kernel
theorem dX4_gap_11 : decode cX4_gap 11 = .ok (.getfield 180, 3) := by decide +kernel
theorem dX4_gap_14 : decode cX4_gap 14 = .ok (.iload_n 3, 1) := by decide +kernel
theorem dX4_gap_15 : decode cX4_gap 15 = .ok (.laload, 1) := by decide +kernel
theorem dX4_gap_16 : decode cX4_gap 16 = .ok (.lstore 4, 2) := by decide +kernel
theorem dX4_gap_18 : decode cX4_gap 18 = .ok (.aload_n 2, 1) := by decide +kernel
theorem dX4_gap_19 : decode cX4_gap 19 = .ok (.getfield 176, 3) := by decide +kernel
theorem dX4_gap_22 : decode cX4_gap 22 = .ok (.iload_n 3, 1) := by decide +kernel
theorem dX4_gap_23 : decode cX4_gap 23 = .ok (.laload, 1) := by decide +kernel
theorem dX4_gap_24 : decode cX4_gap 24 = .ok (.lload 4, 2) := by decide +kernel
theorem dX4_gap_26 : decode cX4_gap 26 = .ok (.aload_n 0, 1) := by decide +kernel
theorem dX4_gap_27 : decode cX4_gap 27 = .ok (.invokevirtual 106, 3) := by decide +kernel
theorem dX4_gap_30 : decode cX4_gap 30 = .ok (.getfield 110, 3) := by decide +kernel
theorem dX4_gap_33 : decode cX4_gap 33 = .ok (.i2l, 1) := by decide +kernel
theorem dX4_gap_34 : decode cX4_gap 34 = .ok (.lmul, 1) := by decide +kernel
theorem dX4_gap_35 : decode cX4_gap 35 = .ok (.lsub, 1) := by decide +kernel
theorem dX4_gap_36 : decode cX4_gap 36 = .ok (.lload 4, 2) := by decide +kernel
theorem dX4_gap_38 : decode cX4_gap 38 = .ok (.iload_n 1, 1) := by decide +kernel
theorem dX4_gap_39 : decode cX4_gap 39 = .ok (.invokestatic 183, 3) := by decide +kernel
theorem dX4_gap_42 : decode cX4_gap 42 = .ok (.lreturn, 1) := by decide +kernel
theorem dX4_told_0 : decode cX4_told 0 = .ok (.iload_n 1, 1) := by decide +kernel
theorem dX4_told_1 : decode cX4_told 1 = .ok (.ifCond .ge 6, 3) := by decide +kernel
theorem dX4_told_4 : decode cX4_told 4 = .ok (.ldc 50, 2) := by decide +kernel
theorem dX4_told_6 : decode cX4_told 6 = .ok (.ireturn, 1) := by decide +kernel
theorem dX4_told_7 : decode cX4_told 7 = .ok (.iload_n 1, 1) := by decide +kernel
theorem dX4_told_8 : decode cX4_told 8 = .ok (.bipush 10, 2) := by decide +kernel
theorem dX4_told_10 : decode cX4_told 10 = .ok (.irem, 1) := by decide +kernel
theorem dX4_told_11 : decode cX4_told 11 = .ok (.istore_n 2, 1) := by decide +kernel
theorem dX4_told_12 : decode cX4_told 12 = .ok (.iload_n 1, 1) := by decide +kernel
theorem dX4_told_13 : decode cX4_told 13 = .ok (.bipush 10, 2) := by decide +kernel
theorem dX4_told_15 : decode cX4_told 15 = .ok (.idiv, 1) := by decide +kernel
theorem dX4_told_16 : decode cX4_told 16 = .ok (.tableswitch 134 0 4 #[36, 42, 65, 88, 111], 36) := by decide +kernel
theorem dX4_told_52 : decode cX4_told 52 = .ok (.aload_n 0, 1) := by decide +kernel
theorem dX4_told_53 : decode cX4_told 53 = .ok (.iload_n 2, 1) := by decide +kernel
theorem dX4_told_54 : decode cX4_told 54 = .ok (.invokevirtual 199, 3) := by decide +kernel
theorem dX4_told_57 : decode cX4_told 57 = .ok (.ireturn, 1) := by decide +kernel
theorem dX4_told_58 : decode cX4_told 58 = .ok (.aload_n 0, 1) := by decide +kernel
theorem dX4_told_59 : decode cX4_told 59 = .ok (.iload_n 2, 1) := by decide +kernel
theorem dX4_told_60 : decode cX4_told 60 = .ok (.invokevirtual 80, 3) := by decide +kernel
theorem dX4_told_63 : decode cX4_told 63 = .ok (.ifCond .eq 15, 3) := by decide +kernel
theorem dX4_told_66 : decode cX4_told 66 = .ok (.aload_n 0, 1) := by decide +kernel
theorem dX4_told_67 : decode cX4_told 67 = .ok (.getfield 10, 3) := by decide +kernel
theorem dX4_told_70 : decode cX4_told 70 = .ok (.getfield 83, 3) := by decide +kernel
theorem dX4_told_73 : decode cX4_told 73 = .ok (.iload_n 2, 1) := by decide +kernel
theorem dX4_told_74 : decode cX4_told 74 = .ok (.iaload, 1) := by decide +kernel
theorem dX4_told_75 : decode cX4_told 75 = .ok (.goto 5, 3) := by decide +kernel
theorem dX4_told_78 : decode cX4_told 78 = .ok (.ldc 50, 2) := by decide +kernel
theorem dX4_told_80 : decode cX4_told 80 = .ok (.ireturn, 1) := by decide +kernel
theorem dX4_told_81 : decode cX4_told 81 = .ok (.aload_n 0, 1) := by decide +kernel
theorem dX4_told_82 : decode cX4_told 82 = .ok (.iload_n 2, 1) := by decide +kernel
theorem dX4_told_83 : decode cX4_told 83 = .ok (.invokevirtual 80, 3) := by decide +kernel
theorem dX4_told_86 : decode cX4_told 86 = .ok (.ifCond .eq 15, 3) := by decide +kernel
theorem dX4_told_89 : decode cX4_told 89 = .ok (.aload_n 0, 1) := by decide +kernel
theorem dX4_told_90 : decode cX4_told 90 = .ok (.getfield 10, 3) := by decide +kernel
theorem dX4_told_93 : decode cX4_told 93 = .ok (.getfield 97, 3) := by decide +kernel
theorem dX4_told_96 : decode cX4_told 96 = .ok (.iload_n 2, 1) := by decide +kernel
theorem dX4_told_97 : decode cX4_told 97 = .ok (.iaload, 1) := by decide +kernel
theorem dX4_told_98 : decode cX4_told 98 = .ok (.goto 5, 3) := by decide +kernel
theorem dX4_told_101 : decode cX4_told 101 = .ok (.ldc 50, 2) := by decide +kernel
theorem dX4_told_103 : decode cX4_told 103 = .ok (.ireturn, 1) := by decide +kernel
theorem dX4_told_104 : decode cX4_told 104 = .ok (.aload_n 0, 1) := by decide +kernel
theorem dX4_told_105 : decode cX4_told 105 = .ok (.iload_n 2, 1) := by decide +kernel
theorem dX4_told_106 : decode cX4_told 106 = .ok (.invokevirtual 67, 3) := by decide +kernel
theorem dX4_told_109 : decode cX4_told 109 = .ok (.ifCond .eq 15, 3) := by decide +kernel
theorem dX4_told_112 : decode cX4_told 112 = .ok (.aload_n 0, 1) := by decide +kernel
theorem dX4_told_113 : decode cX4_told 113 = .ok (.getfield 10, 3) := by decide +kernel
theorem dX4_told_116 : decode cX4_told 116 = .ok (.getfield 100, 3) := by decide +kernel
theorem dX4_told_119 : decode cX4_told 119 = .ok (.iload_n 2, 1) := by decide +kernel
theorem dX4_told_120 : decode cX4_told 120 = .ok (.iaload, 1) := by decide +kernel
theorem dX4_told_121 : decode cX4_told 121 = .ok (.goto 5, 3) := by decide +kernel
theorem dX4_told_124 : decode cX4_told 124 = .ok (.ldc 50, 2) := by decide +kernel
theorem dX4_told_126 : decode cX4_told 126 = .ok (.ireturn, 1) := by decide +kernel
theorem dX4_told_127 : decode cX4_told 127 = .ok (.aload_n 0, 1) := by decide +kernel
theorem dX4_told_128 : decode cX4_told 128 = .ok (.iload_n 2, 1) := by decide +kernel
theorem dX4_told_129 : decode cX4_told 129 = .ok (.invokevirtual 67, 3) := by decide +kernel
theorem dX4_told_132 : decode cX4_told 132 = .ok (.ifCond .eq 15, 3) := by decide +kernel
theorem dX4_told_135 : decode cX4_told 135 = .ok (.aload_n 0, 1) := by decide +kernel
theorem dX4_told_136 : decode cX4_told 136 = .ok (.getfield 10, 3) := by decide +kernel
theorem dX4_told_139 : decode cX4_told 139 = .ok (.getfield 103, 3) := by decide +kernel
theorem dX4_told_142 : decode cX4_told 142 = .ok (.iload_n 2, 1) := by decide +kernel
theorem dX4_told_143 : decode cX4_told 143 = .ok (.iaload, 1) := by decide +kernel
theorem dX4_told_144 : decode cX4_told 144 = .ok (.goto 5, 3) := by decide +kernel
theorem dX4_told_147 : decode cX4_told 147 = .ok (.ldc 50, 2) := by decide +kernel
theorem dX4_told_149 : decode cX4_told 149 = .ok (.ireturn, 1) := by decide +kernel
theorem dX4_told_150 : decode cX4_told 150 = .ok (.ldc 50, 2) := by decide +kernel
theorem dX4_told_152 : decode cX4_told 152 = .ok (.ireturn, 1) := by decide +kernel
theorem dX4_toldCount_0 : decode cX4_toldCount 0 = .ok (.iload_n 1, 1) := by decide +kernel
theorem dX4_toldCount_1 : decode cX4_toldCount 1 = .ok (.tableswitch 51 0 2 #[27, 35, 43], 27) := by decide +kernel
theorem dX4_toldCount_28 : decode cX4_toldCount 28 = .ok (.aload_n 0, 1) := by decide +kernel
theorem dX4_toldCount_29 : decode cX4_toldCount 29 = .ok (.getfield 10, 3) := by decide +kernel
theorem dX4_toldCount_32 : decode cX4_toldCount 32 = .ok (.getfield 51, 3) := by decide +kernel
theorem dX4_toldCount_35 : decode cX4_toldCount 35 = .ok (.ireturn, 1) := by decide +kernel
theorem dX4_toldCount_36 : decode cX4_toldCount 36 = .ok (.aload_n 0, 1) := by decide +kernel
theorem dX4_toldCount_37 : decode cX4_toldCount 37 = .ok (.getfield 10, 3) := by decide +kernel
theorem dX4_toldCount_40 : decode cX4_toldCount 40 = .ok (.getfield 70, 3) := by decide +kernel
theorem dX4_toldCount_43 : decode cX4_toldCount 43 = .ok (.ireturn, 1) := by decide +kernel
theorem dX4_toldCount_44 : decode cX4_toldCount 44 = .ok (.aload_n 0, 1) := by decide +kernel
theorem dX4_toldCount_45 : decode cX4_toldCount 45 = .ok (.getfield 10, 3) := by decide +kernel
theorem dX4_toldCount_48 : decode cX4_toldCount 48 = .ok (.invokevirtual 202, 3) := by decide +kernel
theorem dX4_toldCount_51 : decode cX4_toldCount 51 = .ok (.ireturn, 1) := by decide +kernel
theorem dX4_toldCount_52 : decode cX4_toldCount 52 = .ok (.ldc 50, 2) := by decide +kernel
theorem dX4_toldCount_54 : decode cX4_toldCount 54 = .ok (.ireturn, 1) := by decide +kernel
theorem dX4_isThing_0 : decode cX4_isThing 0 = .ok (.iload_n 1, 1) := by decide +kernel
theorem dX4_isThing_1 : decode cX4_isThing 1 = .ok (.ifCond .lt 18, 3) := by decide +kernel
theorem dX4_isThing_4 : decode cX4_isThing 4 = .ok (.iload_n 1, 1) := by decide +kernel
theorem dX4_isThing_5 : decode cX4_isThing 5 = .ok (.aload_n 0, 1) := by decide +kernel
theorem dX4_isThing_6 : decode cX4_isThing 6 = .ok (.getfield 10, 3) := by decide +kernel
theorem dX4_isThing_9 : decode cX4_isThing 9 = .ok (.getfield 51, 3) := by decide +kernel
theorem dX4_isThing_12 : decode cX4_isThing 12 = .ok (.if_icmp .ge 7, 3) := by decide +kernel
theorem dX4_isThing_15 : decode cX4_isThing 15 = .ok (.iconst 1, 1) := by decide +kernel
theorem dX4_isThing_16 : decode cX4_isThing 16 = .ok (.goto 4, 3) := by decide +kernel
theorem dX4_isThing_19 : decode cX4_isThing 19 = .ok (.iconst 0, 1) := by decide +kernel
theorem dX4_isThing_20 : decode cX4_isThing 20 = .ok (.ireturn, 1) := by decide +kernel
theorem dX4_isRule_0 : decode cX4_isRule 0 = .ok (.iload_n 1, 1) := by decide +kernel
theorem dX4_isRule_1 : decode cX4_isRule 1 = .ok (.ifCond .lt 18, 3) := by decide +kernel
theorem dX4_isRule_4 : decode cX4_isRule 4 = .ok (.iload_n 1, 1) := by decide +kernel
theorem dX4_isRule_5 : decode cX4_isRule 5 = .ok (.aload_n 0, 1) := by decide +kernel
theorem dX4_isRule_6 : decode cX4_isRule 6 = .ok (.getfield 10, 3) := by decide +kernel
theorem dX4_isRule_9 : decode cX4_isRule 9 = .ok (.getfield 70, 3) := by decide +kernel
theorem dX4_isRule_12 : decode cX4_isRule 12 = .ok (.if_icmp .ge 7, 3) := by decide +kernel
theorem dX4_isRule_15 : decode cX4_isRule 15 = .ok (.iconst 1, 1) := by decide +kernel
theorem dX4_isRule_16 : decode cX4_isRule 16 = .ok (.goto 4, 3) := by decide +kernel
end
section
theorem dX4_isRule_19 : decode cX4_isRule 19 = .ok (.iconst 0, 1) := by decide +kernel
theorem dX4_isRule_20 : decode cX4_isRule 20 = .ok (.ireturn, 1) := by decide +kernel
theorem dX4_isWorth_0 : decode cX4_isWorth 0 = .ok (.iload_n 0, 1) := by decide +kernel
theorem dX4_isWorth_1 : decode cX4_isWorth 1 = .ok (.bipush (-99), 2) := by decide +kernel
theorem dX4_isWorth_3 : decode cX4_isWorth 3 = .ok (.if_icmp .lt 13, 3) := by decide +kernel
theorem dX4_isWorth_6 : decode cX4_isWorth 6 = .ok (.iload_n 0, 1) := by decide +kernel
theorem dX4_isWorth_7 : decode cX4_isWorth 7 = .ok (.bipush 99, 2) := by decide +kernel
theorem dX4_isWorth_9 : decode cX4_isWorth 9 = .ok (.if_icmp .gt 7, 3) := by decide +kernel
theorem dX4_isWorth_12 : decode cX4_isWorth 12 = .ok (.iconst 1, 1) := by decide +kernel
theorem dX4_isWorth_13 : decode cX4_isWorth 13 = .ok (.goto 4, 3) := by decide +kernel
theorem dX4_isWorth_16 : decode cX4_isWorth 16 = .ok (.iconst 0, 1) := by decide +kernel
theorem dX4_isWorth_17 : decode cX4_isWorth 17 = .ok (.ireturn, 1) := by decide +kernel
theorem dX4_isCount_0 : decode cX4_isCount 0 = .ok (.iload_n 0, 1) := by decide +kernel
theorem dX4_isCount_1 : decode cX4_isCount 1 = .ok (.ifCond .lt 13, 3) := by decide +kernel
theorem dX4_isCount_4 : decode cX4_isCount 4 = .ok (.iload_n 0, 1) := by decide +kernel
theorem dX4_isCount_5 : decode cX4_isCount 5 = .ok (.bipush 9, 2) := by decide +kernel
theorem dX4_isCount_7 : decode cX4_isCount 7 = .ok (.if_icmp .gt 7, 3) := by decide +kernel
theorem dX4_isCount_10 : decode cX4_isCount 10 = .ok (.iconst 1, 1) := by decide +kernel
theorem dX4_isCount_11 : decode cX4_isCount 11 = .ok (.goto 4, 3) := by decide +kernel
theorem dX4_isCount_14 : decode cX4_isCount 14 = .ok (.iconst 0, 1) := by decide +kernel
theorem dX4_isCount_15 : decode cX4_isCount 15 = .ok (.ireturn, 1) := by decide +kernel
theorem dX4_isLimit_0 : decode cX4_isLimit 0 = .ok (.lload_n 1, 1) := by decide +kernel
theorem dX4_isLimit_1 : decode cX4_isLimit 1 = .ok (.lconst 0, 1) := by decide +kernel
theorem dX4_isLimit_2 : decode cX4_isLimit 2 = .ok (.lcmp, 1) := by decide +kernel
theorem dX4_isLimit_3 : decode cX4_isLimit 3 = .ok (.ifCond .lt 25, 3) := by decide +kernel
theorem dX4_isLimit_6 : decode cX4_isLimit 6 = .ok (.lload_n 1, 1) := by decide +kernel
theorem dX4_isLimit_7 : decode cX4_isLimit 7 = .ok (.iload_n 0, 1) := by decide +kernel
theorem dX4_isLimit_8 : decode cX4_isLimit 8 = .ok (.ifCond .ne 9, 3) := by decide +kernel
theorem dX4_isLimit_11 : decode cX4_isLimit 11 = .ok (.sipush 999, 3) := by decide +kernel
theorem dX4_isLimit_14 : decode cX4_isLimit 14 = .ok (.goto 5, 3) := by decide +kernel
theorem dX4_isLimit_17 : decode cX4_isLimit 17 = .ok (.bipush 9, 2) := by decide +kernel
theorem dX4_isLimit_19 : decode cX4_isLimit 19 = .ok (.i2l, 1) := by decide +kernel
theorem dX4_isLimit_20 : decode cX4_isLimit 20 = .ok (.lcmp, 1) := by decide +kernel
theorem dX4_isLimit_21 : decode cX4_isLimit 21 = .ok (.ifCond .gt 7, 3) := by decide +kernel
theorem dX4_isLimit_24 : decode cX4_isLimit 24 = .ok (.iconst 1, 1) := by decide +kernel
theorem dX4_isLimit_25 : decode cX4_isLimit 25 = .ok (.goto 4, 3) := by decide +kernel
theorem dX4_isLimit_28 : decode cX4_isLimit 28 = .ok (.iconst 0, 1) := by decide +kernel
theorem dX4_isLimit_29 : decode cX4_isLimit 29 = .ok (.ireturn, 1) := by decide +kernel
theorem dX4_replace_0 : decode cX4_replace 0 = .ok (.aload_n 1, 1) := by decide +kernel
theorem dX4_replace_1 : decode cX4_replace 1 = .ok (.iload_n 2, 1) := by decide +kernel
theorem dX4_replace_2 : decode cX4_replace 2 = .ok (.iaload, 1) := by decide +kernel
theorem dX4_replace_3 : decode cX4_replace 3 = .ok (.istore 4, 2) := by decide +kernel
theorem dX4_replace_5 : decode cX4_replace 5 = .ok (.aload_n 1, 1) := by decide +kernel
theorem dX4_replace_6 : decode cX4_replace 6 = .ok (.iload_n 2, 1) := by decide +kernel
theorem dX4_replace_7 : decode cX4_replace 7 = .ok (.iload_n 3, 1) := by decide +kernel
theorem dX4_replace_8 : decode cX4_replace 8 = .ok (.iastore, 1) := by decide +kernel
theorem dX4_replace_9 : decode cX4_replace 9 = .ok (.aload_n 0, 1) := by decide +kernel
theorem dX4_replace_10 : decode cX4_replace 10 = .ok (.invokevirtual 56, 3) := by decide +kernel
theorem dX4_replace_13 : decode cX4_replace 13 = .ok (.iload 4, 2) := by decide +kernel
theorem dX4_replace_15 : decode cX4_replace 15 = .ok (.ireturn, 1) := by decide +kernel
theorem dX4_markChanged_0 : decode cX4_markChanged 0 = .ok (.aload_n 0, 1) := by decide +kernel
theorem dX4_markChanged_1 : decode cX4_markChanged 1 = .ok (.iconst 0, 1) := by decide +kernel
theorem dX4_markChanged_2 : decode cX4_markChanged 2 = .ok (.putfield 205, 3) := by decide +kernel
theorem dX4_markChanged_5 : decode cX4_markChanged 5 = .ok (.aload_n 0, 1) := by decide +kernel
theorem dX4_markChanged_6 : decode cX4_markChanged 6 = .ok (.iconst 0, 1) := by decide +kernel
theorem dX4_markChanged_7 : decode cX4_markChanged 7 = .ok (.putfield 209, 3) := by decide +kernel
theorem dX4_markChanged_10 : decode cX4_markChanged 10 = .ok (.return_, 1) := by decide +kernel
theorem dX4_freshSurvey_0 : decode cX4_freshSurvey 0 = .ok (.aload_n 0, 1) := by decide +kernel
theorem dX4_freshSurvey_1 : decode cX4_freshSurvey 1 = .ok (.getfield 205, 3) := by decide +kernel
theorem dX4_freshSurvey_4 : decode cX4_freshSurvey 4 = .ok (.ifCond .ne 26, 3) := by decide +kernel
theorem dX4_freshSurvey_7 : decode cX4_freshSurvey 7 = .ok (.aload_n 0, 1) := by decide +kernel
theorem dX4_freshSurvey_8 : decode cX4_freshSurvey 8 = .ok (.getfield 28, 3) := by decide +kernel
theorem dX4_freshSurvey_11 : decode cX4_freshSurvey 11 = .ok (.aload_n 0, 1) := by decide +kernel
theorem dX4_freshSurvey_12 : decode cX4_freshSurvey 12 = .ok (.getfield 21, 3) := by decide +kernel
theorem dX4_freshSurvey_15 : decode cX4_freshSurvey 15 = .ok (.aload_n 0, 1) := by decide +kernel
theorem dX4_freshSurvey_16 : decode cX4_freshSurvey 16 = .ok (.getfield 10, 3) := by decide +kernel
theorem dX4_freshSurvey_19 : decode cX4_freshSurvey 19 = .ok (.getfield 51, 3) := by decide +kernel
theorem dX4_freshSurvey_22 : decode cX4_freshSurvey 22 = .ok (.invokevirtual 212, 3) := by decide +kernel
theorem dX4_freshSurvey_25 : decode cX4_freshSurvey 25 = .ok (.aload_n 0, 1) := by decide +kernel
theorem dX4_freshSurvey_26 : decode cX4_freshSurvey 26 = .ok (.iconst 1, 1) := by decide +kernel
theorem dX4_freshSurvey_27 : decode cX4_freshSurvey 27 = .ok (.putfield 205, 3) := by decide +kernel
theorem dX4_freshSurvey_30 : decode cX4_freshSurvey 30 = .ok (.aload_n 0, 1) := by decide +kernel
theorem dX4_freshSurvey_31 : decode cX4_freshSurvey 31 = .ok (.getfield 28, 3) := by decide +kernel
theorem dX4_freshSurvey_34 : decode cX4_freshSurvey 34 = .ok (.areturn, 1) := by decide +kernel
theorem dX4_freshCorners_0 : decode cX4_freshCorners 0 = .ok (.aload_n 0, 1) := by decide +kernel
theorem dX4_freshCorners_1 : decode cX4_freshCorners 1 = .ok (.getfield 209, 3) := by decide +kernel
theorem dX4_freshCorners_4 : decode cX4_freshCorners 4 = .ok (.ifCond .ne 19, 3) := by decide +kernel
theorem dX4_freshCorners_7 : decode cX4_freshCorners 7 = .ok (.aload_n 0, 1) := by decide +kernel
theorem dX4_freshCorners_8 : decode cX4_freshCorners 8 = .ok (.getfield 35, 3) := by decide +kernel
theorem dX4_freshCorners_11 : decode cX4_freshCorners 11 = .ok (.aload_n 0, 1) := by decide +kernel
theorem dX4_freshCorners_12 : decode cX4_freshCorners 12 = .ok (.getfield 10, 3) := by decide +kernel
theorem dX4_freshCorners_15 : decode cX4_freshCorners 15 = .ok (.invokevirtual 216, 3) := by decide +kernel
theorem dX4_freshCorners_18 : decode cX4_freshCorners 18 = .ok (.aload_n 0, 1) := by decide +kernel
theorem dX4_freshCorners_19 : decode cX4_freshCorners 19 = .ok (.iconst 1, 1) := by decide +kernel
theorem dX4_freshCorners_20 : decode cX4_freshCorners 20 = .ok (.putfield 209, 3) := by decide +kernel
theorem dX4_freshCorners_23 : decode cX4_freshCorners 23 = .ok (.aload_n 0, 1) := by decide +kernel
theorem dX4_freshCorners_24 : decode cX4_freshCorners 24 = .ok (.getfield 35, 3) := by decide +kernel
theorem dX4_freshCorners_27 : decode cX4_freshCorners 27 = .ok (.areturn, 1) := by decide +kernel
theorem dX4_inLowestTerms_0 : decode cX4_inLowestTerms 0 = .ok (.lload_n 0, 1) := by decide +kernel
theorem dX4_inLowestTerms_1 : decode cX4_inLowestTerms 1 = .ok (.invokestatic 219, 3) := by decide +kernel
theorem dX4_inLowestTerms_4 : decode cX4_inLowestTerms 4 = .ok (.lload_n 2, 1) := by decide +kernel
theorem dX4_inLowestTerms_5 : decode cX4_inLowestTerms 5 = .ok (.invokestatic 225, 3) := by decide +kernel
theorem dX4_inLowestTerms_8 : decode cX4_inLowestTerms 8 = .ok (.lstore 5, 2) := by decide +kernel
theorem dX4_inLowestTerms_10 : decode cX4_inLowestTerms 10 = .ok (.lload 5, 2) := by decide +kernel
theorem dX4_inLowestTerms_12 : decode cX4_inLowestTerms 12 = .ok (.lconst 0, 1) := by decide +kernel
theorem dX4_inLowestTerms_13 : decode cX4_inLowestTerms 13 = .ok (.lcmp, 1) := by decide +kernel
theorem dX4_inLowestTerms_14 : decode cX4_inLowestTerms 14 = .ok (.ifCond .ne 14, 3) := by decide +kernel
theorem dX4_inLowestTerms_17 : decode cX4_inLowestTerms 17 = .ok (.iload 4, 2) := by decide +kernel
theorem dX4_inLowestTerms_19 : decode cX4_inLowestTerms 19 = .ok (.ifCond .eq 7, 3) := by decide +kernel
theorem dX4_inLowestTerms_22 : decode cX4_inLowestTerms 22 = .ok (.lconst 1, 1) := by decide +kernel
theorem dX4_inLowestTerms_23 : decode cX4_inLowestTerms 23 = .ok (.goto 4, 3) := by decide +kernel
theorem dX4_inLowestTerms_26 : decode cX4_inLowestTerms 26 = .ok (.lconst 0, 1) := by decide +kernel
theorem dX4_inLowestTerms_27 : decode cX4_inLowestTerms 27 = .ok (.lreturn, 1) := by decide +kernel
theorem dX4_inLowestTerms_28 : decode cX4_inLowestTerms 28 = .ok (.iload 4, 2) := by decide +kernel
theorem dX4_inLowestTerms_30 : decode cX4_inLowestTerms 30 = .ok (.ifCond .eq 7, 3) := by decide +kernel
theorem dX4_inLowestTerms_33 : decode cX4_inLowestTerms 33 = .ok (.lload_n 2, 1) := by decide +kernel
theorem dX4_inLowestTerms_34 : decode cX4_inLowestTerms 34 = .ok (.goto 4, 3) := by decide +kernel
theorem dX4_inLowestTerms_37 : decode cX4_inLowestTerms 37 = .ok (.lload_n 0, 1) := by decide +kernel
theorem dX4_inLowestTerms_38 : decode cX4_inLowestTerms 38 = .ok (.lload 5, 2) := by decide +kernel
theorem dX4_inLowestTerms_40 : decode cX4_inLowestTerms 40 = .ok (.ldiv, 1) := by decide +kernel
theorem dX4_inLowestTerms_41 : decode cX4_inLowestTerms 41 = .ok (.lreturn, 1) := by decide +kernel
theorem dX4_commonDivisor_0 : decode cX4_commonDivisor 0 = .ok (.iconst 0, 1) := by decide +kernel
theorem dX4_commonDivisor_1 : decode cX4_commonDivisor 1 = .ok (.istore 4, 2) := by decide +kernel
theorem dX4_commonDivisor_3 : decode cX4_commonDivisor 3 = .ok (.iload 4, 2) := by decide +kernel
theorem dX4_commonDivisor_5 : decode cX4_commonDivisor 5 = .ok (.sipush 200, 3) := by decide +kernel
theorem dX4_commonDivisor_8 : decode cX4_commonDivisor 8 = .ok (.if_icmp .ge 25, 3) := by decide +kernel
theorem dX4_commonDivisor_11 : decode cX4_commonDivisor 11 = .ok (.lload_n 2, 1) := by decide +kernel
theorem dX4_commonDivisor_12 : decode cX4_commonDivisor 12 = .ok (.lconst 0, 1) := by decide +kernel
theorem dX4_commonDivisor_13 : decode cX4_commonDivisor 13 = .ok (.lcmp, 1) := by decide +kernel
theorem dX4_commonDivisor_14 : decode cX4_commonDivisor 14 = .ok (.ifCond .eq 19, 3) := by decide +kernel
theorem dX4_commonDivisor_17 : decode cX4_commonDivisor 17 = .ok (.lload_n 0, 1) := by decide +kernel
theorem dX4_commonDivisor_18 : decode cX4_commonDivisor 18 = .ok (.lload_n 2, 1) := by decide +kernel
theorem dX4_commonDivisor_19 : decode cX4_commonDivisor 19 = .ok (.lrem, 1) := by decide +kernel
theorem dX4_commonDivisor_20 : decode cX4_commonDivisor 20 = .ok (.lstore 5, 2) := by decide +kernel
theorem dX4_commonDivisor_22 : decode cX4_commonDivisor 22 = .ok (.lload_n 2, 1) := by decide +kernel
theorem dX4_commonDivisor_23 : decode cX4_commonDivisor 23 = .ok (.lstore_n 0, 1) := by decide +kernel
theorem dX4_commonDivisor_24 : decode cX4_commonDivisor 24 = .ok (.lload 5, 2) := by decide +kernel
theorem dX4_commonDivisor_26 : decode cX4_commonDivisor 26 = .ok (.lstore_n 2, 1) := by decide +kernel
theorem dX4_commonDivisor_27 : decode cX4_commonDivisor 27 = .ok (.iinc 4 1, 3) := by decide +kernel
theorem dX4_commonDivisor_30 : decode cX4_commonDivisor 30 = .ok (.goto (-27), 3) := by decide +kernel
theorem dX4_commonDivisor_33 : decode cX4_commonDivisor 33 = .ok (.lload_n 0, 1) := by decide +kernel
theorem dX4_commonDivisor_34 : decode cX4_commonDivisor 34 = .ok (.lreturn, 1) := by decide +kernel
theorem dX5_init_0 : decode cX5_init 0 = .ok (.aload_n 0, 1) := by decide +kernel
theorem dX5_init_1 : decode cX5_init 1 = .ok (.invokespecial 1, 3) := by decide +kernel
theorem dX5_init_4 : decode cX5_init 4 = .ok (.aload_n 0, 1) := by decide +kernel
theorem dX5_init_5 : decode cX5_init 5 = .ok (.iconst 4, 1) := by decide +kernel
theorem dX5_init_6 : decode cX5_init 6 = .ok (.newarray .int, 2) := by decide +kernel
theorem dX5_init_8 : decode cX5_init 8 = .ok (.putfield 7, 3) := by decide +kernel
theorem dX5_init_11 : decode cX5_init 11 = .ok (.aload_n 0, 1) := by decide +kernel
theorem dX5_init_12 : decode cX5_init 12 = .ok (.iconst 4, 1) := by decide +kernel
theorem dX5_init_13 : decode cX5_init 13 = .ok (.newarray .int, 2) := by decide +kernel
theorem dX5_init_15 : decode cX5_init 15 = .ok (.putfield 13, 3) := by decide +kernel
theorem dX5_init_18 : decode cX5_init 18 = .ok (.aload_n 0, 1) := by decide +kernel
theorem dX5_init_19 : decode cX5_init 19 = .ok (.bipush 6, 2) := by decide +kernel
theorem dX5_init_21 : decode cX5_init 21 = .ok (.newarray .int, 2) := by decide +kernel
theorem dX5_init_23 : decode cX5_init 23 = .ok (.putfield 16, 3) := by decide +kernel
theorem dX5_init_26 : decode cX5_init 26 = .ok (.aload_n 0, 1) := by decide +kernel
theorem dX5_init_27 : decode cX5_init 27 = .ok (.bipush 6, 2) := by decide +kernel
theorem dX5_init_29 : decode cX5_init 29 = .ok (.newarray .int, 2) := by decide +kernel
theorem dX5_init_31 : decode cX5_init 31 = .ok (.putfield 19, 3) := by decide +kernel
theorem dX5_init_34 : decode cX5_init 34 = .ok (.aload_n 0, 1) := by decide +kernel
theorem dX5_init_35 : decode cX5_init 35 = .ok (.bipush 6, 2) := by decide +kernel
theorem dX5_init_37 : decode cX5_init 37 = .ok (.newarray .int, 2) := by decide +kernel
theorem dX5_init_39 : decode cX5_init 39 = .ok (.putfield 22, 3) := by decide +kernel
theorem dX5_init_42 : decode cX5_init 42 = .ok (.aload_n 0, 1) := by decide +kernel
theorem dX5_init_43 : decode cX5_init 43 = .ok (.bipush 6, 2) := by decide +kernel
theorem dX5_init_45 : decode cX5_init 45 = .ok (.newarray .int, 2) := by decide +kernel
theorem dX5_init_47 : decode cX5_init 47 = .ok (.putfield 25, 3) := by decide +kernel
theorem dX5_init_50 : decode cX5_init 50 = .ok (.aload_n 0, 1) := by decide +kernel
theorem dX5_init_51 : decode cX5_init 51 = .ok (.bipush 6, 2) := by decide +kernel
theorem dX5_init_53 : decode cX5_init 53 = .ok (.newarray .boolean, 2) := by decide +kernel
theorem dX5_init_55 : decode cX5_init 55 = .ok (.putfield 28, 3) := by decide +kernel
theorem dX5_init_58 : decode cX5_init 58 = .ok (.aload_n 0, 1) := by decide +kernel
theorem dX5_init_59 : decode cX5_init 59 = .ok (.bipush 24, 2) := by decide +kernel
theorem dX5_init_61 : decode cX5_init 61 = .ok (.newarray .int, 2) := by decide +kernel
theorem dX5_init_63 : decode cX5_init 63 = .ok (.putfield 32, 3) := by decide +kernel
theorem dX5_init_66 : decode cX5_init 66 = .ok (.aload_n 0, 1) := by decide +kernel
theorem dX5_init_67 : decode cX5_init 67 = .ok (.iconst 4, 1) := by decide +kernel
theorem dX5_init_68 : decode cX5_init 68 = .ok (.newarray .int, 2) := by decide +kernel
theorem dX5_init_70 : decode cX5_init 70 = .ok (.putfield 35, 3) := by decide +kernel
theorem dX5_init_73 : decode cX5_init 73 = .ok (.aload_n 0, 1) := by decide +kernel
theorem dX5_init_74 : decode cX5_init 74 = .ok (.iconst 4, 1) := by decide +kernel
theorem dX5_init_75 : decode cX5_init 75 = .ok (.newarray .int, 2) := by decide +kernel
theorem dX5_init_77 : decode cX5_init 77 = .ok (.putfield 38, 3) := by decide +kernel
theorem dX5_init_80 : decode cX5_init 80 = .ok (.aload_n 0, 1) := by decide +kernel
theorem dX5_init_81 : decode cX5_init 81 = .ok (.iconst 4, 1) := by decide +kernel
theorem dX5_init_82 : decode cX5_init 82 = .ok (.newarray .int, 2) := by decide +kernel
theorem dX5_init_84 : decode cX5_init 84 = .ok (.putfield 41, 3) := by decide +kernel
theorem dX5_init_87 : decode cX5_init 87 = .ok (.aload_n 0, 1) := by decide +kernel
theorem dX5_init_88 : decode cX5_init 88 = .ok (.iconst 4, 1) := by decide +kernel
theorem dX5_init_89 : decode cX5_init 89 = .ok (.newarray .boolean, 2) := by decide +kernel
theorem dX5_init_91 : decode cX5_init 91 = .ok (.putfield 44, 3) := by decide +kernel
theorem dX5_init_94 : decode cX5_init 94 = .ok (.aload_n 0, 1) := by decide +kernel
theorem dX5_init_95 : decode cX5_init 95 = .ok (.bipush 6, 2) := by decide +kernel
theorem dX5_init_97 : decode cX5_init 97 = .ok (.newarray .int, 2) := by decide +kernel
theorem dX5_init_99 : decode cX5_init 99 = .ok (.putfield 47, 3) := by decide +kernel
theorem dX5_init_102 : decode cX5_init 102 = .ok (.aload_n 0, 1) := by decide +kernel
theorem dX5_init_103 : decode cX5_init 103 = .ok (.bipush 56, 2) := by decide +kernel
theorem dX5_init_105 : decode cX5_init 105 = .ok (.newarray .int, 2) := by decide +kernel
theorem dX5_init_107 : decode cX5_init 107 = .ok (.putfield 50, 3) := by decide +kernel
theorem dX5_init_110 : decode cX5_init 110 = .ok (.aload_n 0, 1) := by decide +kernel
theorem dX5_init_111 : decode cX5_init 111 = .ok (.bipush 14, 2) := by decide +kernel
theorem dX5_init_113 : decode cX5_init 113 = .ok (.newarray .int, 2) := by decide +kernel
theorem dX5_init_115 : decode cX5_init 115 = .ok (.putfield 53, 3) := by decide +kernel
theorem dX5_init_118 : decode cX5_init 118 = .ok (.aload_n 0, 1) := by decide +kernel
theorem dX5_init_119 : decode cX5_init 119 = .ok (.bipush 14, 2) := by decide +kernel
theorem dX5_init_121 : decode cX5_init 121 = .ok (.newarray .int, 2) := by decide +kernel
theorem dX5_init_123 : decode cX5_init 123 = .ok (.putfield 56, 3) := by decide +kernel
theorem dX5_init_126 : decode cX5_init 126 = .ok (.aload_n 0, 1) := by decide +kernel
theorem dX5_init_127 : decode cX5_init 127 = .ok (.bipush 14, 2) := by decide +kernel
theorem dX5_init_129 : decode cX5_init 129 = .ok (.newarray .int, 2) := by decide +kernel
theorem dX5_init_131 : decode cX5_init 131 = .ok (.putfield 59, 3) := by decide +kernel
theorem dX5_init_134 : decode cX5_init 134 = .ok (.aload_n 0, 1) := by decide +kernel
theorem dX5_init_135 : decode cX5_init 135 = .ok (.bipush 16, 2) := by decide +kernel
theorem dX5_init_137 : decode cX5_init 137 = .ok (.newarray .long, 2) := by decide +kernel
theorem dX5_init_139 : decode cX5_init 139 = .ok (.putfield 62, 3) := by decide +kernel
theorem dX5_init_142 : decode cX5_init 142 = .ok (.return_, 1) := by decide +kernel
theorem dX5_in_0 : decode cX5_in 0 = .ok (.lload_n 0, 1) := by decide +kernel
theorem dX5_in_1 : decode cX5_in 1 = .ok (.lload_n 2, 1) := by decide +kernel
theorem dX5_in_2 : decode cX5_in 2 = .ok (.lcmp, 1) := by decide +kernel
theorem dX5_in_3 : decode cX5_in 3 = .ok (.ifCond .lt 14, 3) := by decide +kernel
theorem dX5_in_6 : decode cX5_in 6 = .ok (.lload_n 0, 1) := by decide +kernel
theorem dX5_in_7 : decode cX5_in 7 = .ok (.lload 4, 2) := by decide +kernel
theorem dX5_in_9 : decode cX5_in 9 = .ok (.lcmp, 1) := by decide +kernel
theorem dX5_in_10 : decode cX5_in 10 = .ok (.ifCond .gt 7, 3) := by decide +kernel
theorem dX5_in_13 : decode cX5_in 13 = .ok (.iconst 1, 1) := by decide +kernel
theorem dX5_in_14 : decode cX5_in 14 = .ok (.goto 4, 3) := by decide +kernel
theorem dX5_in_17 : decode cX5_in 17 = .ok (.iconst 0, 1) := by decide +kernel
theorem dX5_in_18 : decode cX5_in 18 = .ok (.ireturn, 1) := by decide +kernel
theorem dX5_isThing_0 : decode cX5_isThing 0 = .ok (.iload_n 1, 1) := by decide +kernel
theorem dX5_isThing_1 : decode cX5_isThing 1 = .ok (.i2l, 1) := by decide +kernel
theorem dX5_isThing_2 : decode cX5_isThing 2 = .ok (.lconst 0, 1) := by decide +kernel
theorem dX5_isThing_3 : decode cX5_isThing 3 = .ok (.aload_n 0, 1) := by decide +kernel
theorem dX5_isThing_4 : decode cX5_isThing 4 = .ok (.getfield 66, 3) := by decide +kernel
theorem dX5_isThing_7 : decode cX5_isThing 7 = .ok (.iconst 1, 1) := by decide +kernel
theorem dX5_isThing_8 : decode cX5_isThing 8 = .ok (.isub, 1) := by decide +kernel
theorem dX5_isThing_9 : decode cX5_isThing 9 = .ok (.i2l, 1) := by decide +kernel
theorem dX5_isThing_10 : decode cX5_isThing 10 = .ok (.invokestatic 70, 3) := by decide +kernel
theorem dX5_isThing_13 : decode cX5_isThing 13 = .ok (.ireturn, 1) := by decide +kernel
theorem dX5_isRule_0 : decode cX5_isRule 0 = .ok (.iload_n 1, 1) := by decide +kernel
theorem dX5_isRule_1 : decode cX5_isRule 1 = .ok (.i2l, 1) := by decide +kernel
theorem dX5_isRule_2 : decode cX5_isRule 2 = .ok (.lconst 0, 1) := by decide +kernel
theorem dX5_isRule_3 : decode cX5_isRule 3 = .ok (.aload_n 0, 1) := by decide +kernel
theorem dX5_isRule_4 : decode cX5_isRule 4 = .ok (.getfield 74, 3) := by decide +kernel
theorem dX5_isRule_7 : decode cX5_isRule 7 = .ok (.iconst 1, 1) := by decide +kernel
theorem dX5_isRule_8 : decode cX5_isRule 8 = .ok (.isub, 1) := by decide +kernel
theorem dX5_isRule_9 : decode cX5_isRule 9 = .ok (.i2l, 1) := by decide +kernel
theorem dX5_isRule_10 : decode cX5_isRule 10 = .ok (.invokestatic 70, 3) := by decide +kernel
theorem dX5_isRule_13 : decode cX5_isRule 13 = .ok (.ireturn, 1) := by decide +kernel
theorem dX5_isLimit_0 : decode cX5_isLimit 0 = .ok (.lload_n 1, 1) := by decide +kernel
theorem dX5_isLimit_1 : decode cX5_isLimit 1 = .ok (.lconst 0, 1) := by decide +kernel
theorem dX5_isLimit_2 : decode cX5_isLimit 2 = .ok (.iload_n 0, 1) := by decide +kernel
theorem dX5_isLimit_3 : decode cX5_isLimit 3 = .ok (.ifCond .ne 9, 3) := by decide +kernel
theorem dX5_isLimit_6 : decode cX5_isLimit 6 = .ok (.ldc2_w 77, 3) := by decide +kernel
theorem dX5_isLimit_9 : decode cX5_isLimit 9 = .ok (.goto 6, 3) := by decide +kernel
theorem dX5_isLimit_12 : decode cX5_isLimit 12 = .ok (.ldc2_w 79, 3) := by decide +kernel
theorem dX5_isLimit_15 : decode cX5_isLimit 15 = .ok (.invokestatic 70, 3) := by decide +kernel
theorem dX5_isLimit_18 : decode cX5_isLimit 18 = .ok (.ireturn, 1) := by decide +kernel
theorem dX5_thing_0 : decode cX5_thing 0 = .ok (.iload_n 1, 1) := by decide +kernel
theorem dX5_thing_1 : decode cX5_thing 1 = .ok (.i2l, 1) := by decide +kernel
theorem dX5_thing_2 : decode cX5_thing 2 = .ok (.ldc2_w 81, 3) := by decide +kernel
theorem dX5_thing_5 : decode cX5_thing 5 = .ok (.ldc2_w 83, 3) := by decide +kernel
theorem dX5_thing_8 : decode cX5_thing 8 = .ok (.invokestatic 70, 3) := by decide +kernel
theorem dX5_thing_11 : decode cX5_thing 11 = .ok (.ifCond .eq 15, 3) := by decide +kernel
theorem dX5_thing_14 : decode cX5_thing 14 = .ok (.iload_n 2, 1) := by decide +kernel
theorem dX5_thing_15 : decode cX5_thing 15 = .ok (.i2l, 1) := by decide +kernel
theorem dX5_thing_16 : decode cX5_thing 16 = .ok (.lconst 0, 1) := by decide +kernel
theorem dX5_thing_17 : decode cX5_thing 17 = .ok (.ldc2_w 79, 3) := by decide +kernel
theorem dX5_thing_20 : decode cX5_thing 20 = .ok (.invokestatic 70, 3) := by decide +kernel
theorem dX5_thing_23 : decode cX5_thing 23 = .ok (.ifCond .ne 6, 3) := by decide +kernel
theorem dX5_thing_26 : decode cX5_thing 26 = .ok (.ldc 85, 2) := by decide +kernel
theorem dX5_thing_28 : decode cX5_thing 28 = .ok (.ireturn, 1) := by decide +kernel
theorem dX5_thing_29 : decode cX5_thing 29 = .ok (.aload_n 0, 1) := by decide +kernel
theorem dX5_thing_30 : decode cX5_thing 30 = .ok (.getfield 66, 3) := by decide +kernel
theorem dX5_thing_33 : decode cX5_thing 33 = .ok (.iconst 4, 1) := by decide +kernel
theorem dX5_thing_34 : decode cX5_thing 34 = .ok (.if_icmp .ne 6, 3) := by decide +kernel
theorem dX5_thing_37 : decode cX5_thing 37 = .ok (.ldc 86, 2) := by decide +kernel
theorem dX5_thing_39 : decode cX5_thing 39 = .ok (.ireturn, 1) := by decide +kernel
theorem dX5_thing_40 : decode cX5_thing 40 = .ok (.aload_n 0, 1) := by decide +kernel
theorem dX5_thing_41 : decode cX5_thing 41 = .ok (.getfield 7, 3) := by decide +kernel
theorem dX5_thing_44 : decode cX5_thing 44 = .ok (.aload_n 0, 1) := by decide +kernel
theorem dX5_thing_45 : decode cX5_thing 45 = .ok (.getfield 66, 3) := by decide +kernel
theorem dX5_thing_48 : decode cX5_thing 48 = .ok (.iload_n 1, 1) := by decide +kernel
theorem dX5_thing_49 : decode cX5_thing 49 = .ok (.iastore, 1) := by decide +kernel
theorem dX5_thing_50 : decode cX5_thing 50 = .ok (.aload_n 0, 1) := by decide +kernel
theorem dX5_thing_51 : decode cX5_thing 51 = .ok (.getfield 13, 3) := by decide +kernel
theorem dX5_thing_54 : decode cX5_thing 54 = .ok (.aload_n 0, 1) := by decide +kernel
theorem dX5_thing_55 : decode cX5_thing 55 = .ok (.getfield 66, 3) := by decide +kernel
theorem dX5_thing_58 : decode cX5_thing 58 = .ok (.iload_n 2, 1) := by decide +kernel
theorem dX5_thing_59 : decode cX5_thing 59 = .ok (.iastore, 1) := by decide +kernel
theorem dX5_thing_60 : decode cX5_thing 60 = .ok (.aload_n 0, 1) := by decide +kernel
theorem dX5_thing_61 : decode cX5_thing 61 = .ok (.dup, 1) := by decide +kernel
theorem dX5_thing_62 : decode cX5_thing 62 = .ok (.getfield 66, 3) := by decide +kernel
theorem dX5_thing_65 : decode cX5_thing 65 = .ok (.iconst 1, 1) := by decide +kernel
theorem dX5_thing_66 : decode cX5_thing 66 = .ok (.iadd, 1) := by decide +kernel
theorem dX5_thing_67 : decode cX5_thing 67 = .ok (.putfield 66, 3) := by decide +kernel
theorem dX5_thing_70 : decode cX5_thing 70 = .ok (.aload_n 0, 1) := by decide +kernel
theorem dX5_thing_71 : decode cX5_thing 71 = .ok (.getfield 66, 3) := by decide +kernel
theorem dX5_thing_74 : decode cX5_thing 74 = .ok (.iconst 1, 1) := by decide +kernel
theorem dX5_thing_75 : decode cX5_thing 75 = .ok (.isub, 1) := by decide +kernel
theorem dX5_thing_76 : decode cX5_thing 76 = .ok (.ireturn, 1) := by decide +kernel
theorem dX5_rule_0 : decode cX5_rule 0 = .ok (.iload_n 1, 1) := by decide +kernel
theorem dX5_rule_1 : decode cX5_rule 1 = .ok (.i2l, 1) := by decide +kernel
theorem dX5_rule_2 : decode cX5_rule 2 = .ok (.lconst 0, 1) := by decide +kernel
theorem dX5_rule_3 : decode cX5_rule 3 = .ok (.ldc2_w 87, 3) := by decide +kernel
theorem dX5_rule_6 : decode cX5_rule 6 = .ok (.invokestatic 70, 3) := by decide +kernel
theorem dX5_rule_9 : decode cX5_rule 9 = .ok (.ifCond .eq 33, 3) := by decide +kernel
theorem dX5_rule_12 : decode cX5_rule 12 = .ok (.iload_n 1, 1) := by decide +kernel
theorem dX5_rule_13 : decode cX5_rule 13 = .ok (.iload 4, 2) := by decide +kernel
theorem dX5_rule_15 : decode cX5_rule 15 = .ok (.i2l, 1) := by decide +kernel
theorem dX5_rule_16 : decode cX5_rule 16 = .ok (.invokestatic 89, 3) := by decide +kernel
theorem dX5_rule_19 : decode cX5_rule 19 = .ok (.ifCond .eq 23, 3) := by decide +kernel
theorem dX5_rule_22 : decode cX5_rule 22 = .ok (.iload_n 1, 1) := by decide +kernel
theorem dX5_rule_23 : decode cX5_rule 23 = .ok (.ifCond .le 22, 3) := by decide +kernel
theorem dX5_rule_26 : decode cX5_rule 26 = .ok (.aload_n 0, 1) := by decide +kernel
theorem dX5_rule_27 : decode cX5_rule 27 = .ok (.iload_n 2, 1) := by decide +kernel
theorem dX5_rule_28 : decode cX5_rule 28 = .ok (.invokevirtual 93, 3) := by decide +kernel
theorem dX5_rule_31 : decode cX5_rule 31 = .ok (.ifCond .eq 11, 3) := by decide +kernel
theorem dX5_rule_34 : decode cX5_rule 34 = .ok (.aload_n 0, 1) := by decide +kernel
theorem dX5_rule_35 : decode cX5_rule 35 = .ok (.iload_n 3, 1) := by decide +kernel
theorem dX5_rule_36 : decode cX5_rule 36 = .ok (.invokevirtual 93, 3) := by decide +kernel
theorem dX5_rule_39 : decode cX5_rule 39 = .ok (.ifCond .ne 6, 3) := by decide +kernel
theorem dX5_rule_42 : decode cX5_rule 42 = .ok (.ldc 85, 2) := by decide +kernel
theorem dX5_rule_44 : decode cX5_rule 44 = .ok (.ireturn, 1) := by decide +kernel
theorem dX5_rule_45 : decode cX5_rule 45 = .ok (.aload_n 0, 1) := by decide +kernel
theorem dX5_rule_46 : decode cX5_rule 46 = .ok (.getfield 74, 3) := by decide +kernel
theorem dX5_rule_49 : decode cX5_rule 49 = .ok (.bipush 6, 2) := by decide +kernel
theorem dX5_rule_51 : decode cX5_rule 51 = .ok (.if_icmp .ne 6, 3) := by decide +kernel
theorem dX5_rule_54 : decode cX5_rule 54 = .ok (.ldc 86, 2) := by decide +kernel
theorem dX5_rule_56 : decode cX5_rule 56 = .ok (.ireturn, 1) := by decide +kernel
theorem dX5_rule_57 : decode cX5_rule 57 = .ok (.aload_n 0, 1) := by decide +kernel
theorem dX5_rule_58 : decode cX5_rule 58 = .ok (.getfield 16, 3) := by decide +kernel
theorem dX5_rule_61 : decode cX5_rule 61 = .ok (.aload_n 0, 1) := by decide +kernel
theorem dX5_rule_62 : decode cX5_rule 62 = .ok (.getfield 74, 3) := by decide +kernel
theorem dX5_rule_65 : decode cX5_rule 65 = .ok (.iload_n 1, 1) := by decide +kernel
theorem dX5_rule_66 : decode cX5_rule 66 = .ok (.iastore, 1) := by decide +kernel
theorem dX5_rule_67 : decode cX5_rule 67 = .ok (.aload_n 0, 1) := by decide +kernel
theorem dX5_rule_68 : decode cX5_rule 68 = .ok (.getfield 19, 3) := by decide +kernel
theorem dX5_rule_71 : decode cX5_rule 71 = .ok (.aload_n 0, 1) := by decide +kernel
theorem dX5_rule_72 : decode cX5_rule 72 = .ok (.getfield 74, 3) := by decide +kernel
theorem dX5_rule_75 : decode cX5_rule 75 = .ok (.iload_n 2, 1) := by decide +kernel
theorem dX5_rule_76 : decode cX5_rule 76 = .ok (.iastore, 1) := by decide +kernel
theorem dX5_rule_77 : decode cX5_rule 77 = .ok (.aload_n 0, 1) := by decide +kernel
theorem dX5_rule_78 : decode cX5_rule 78 = .ok (.getfield 22, 3) := by decide +kernel
theorem dX5_rule_81 : decode cX5_rule 81 = .ok (.aload_n 0, 1) := by decide +kernel
theorem dX5_rule_82 : decode cX5_rule 82 = .ok (.getfield 74, 3) := by decide +kernel
theorem dX5_rule_85 : decode cX5_rule 85 = .ok (.iload_n 3, 1) := by decide +kernel
theorem dX5_rule_86 : decode cX5_rule 86 = .ok (.iastore, 1) := by decide +kernel
theorem dX5_rule_87 : decode cX5_rule 87 = .ok (.aload_n 0, 1) := by decide +kernel
theorem dX5_rule_88 : decode cX5_rule 88 = .ok (.getfield 25, 3) := by decide +kernel
theorem dX5_rule_91 : decode cX5_rule 91 = .ok (.aload_n 0, 1) := by decide +kernel
theorem dX5_rule_92 : decode cX5_rule 92 = .ok (.getfield 74, 3) := by decide +kernel
theorem dX5_rule_95 : decode cX5_rule 95 = .ok (.iload 4, 2) := by decide +kernel
theorem dX5_rule_97 : decode cX5_rule 97 = .ok (.iastore, 1) := by decide +kernel
theorem dX5_rule_98 : decode cX5_rule 98 = .ok (.aload_n 0, 1) := by decide +kernel
theorem dX5_rule_99 : decode cX5_rule 99 = .ok (.getfield 28, 3) := by decide +kernel
theorem dX5_rule_102 : decode cX5_rule 102 = .ok (.aload_n 0, 1) := by decide +kernel
theorem dX5_rule_103 : decode cX5_rule 103 = .ok (.getfield 74, 3) := by decide +kernel
theorem dX5_rule_106 : decode cX5_rule 106 = .ok (.iconst 1, 1) := by decide +kernel
theorem dX5_rule_107 : decode cX5_rule 107 = .ok (.bastore, 1) := by decide +kernel
theorem dX5_rule_108 : decode cX5_rule 108 = .ok (.aload_n 0, 1) := by decide +kernel
theorem dX5_rule_109 : decode cX5_rule 109 = .ok (.dup, 1) := by decide +kernel
theorem dX5_rule_110 : decode cX5_rule 110 = .ok (.getfield 74, 3) := by decide +kernel
theorem dX5_rule_113 : decode cX5_rule 113 = .ok (.iconst 1, 1) := by decide +kernel
theorem dX5_rule_114 : decode cX5_rule 114 = .ok (.iadd, 1) := by decide +kernel
theorem dX5_rule_115 : decode cX5_rule 115 = .ok (.putfield 74, 3) := by decide +kernel
theorem dX5_rule_118 : decode cX5_rule 118 = .ok (.aload_n 0, 1) := by decide +kernel
theorem dX5_rule_119 : decode cX5_rule 119 = .ok (.getfield 74, 3) := by decide +kernel
theorem dX5_rule_122 : decode cX5_rule 122 = .ok (.iconst 1, 1) := by decide +kernel
theorem dX5_rule_123 : decode cX5_rule 123 = .ok (.isub, 1) := by decide +kernel
theorem dX5_rule_124 : decode cX5_rule 124 = .ok (.ireturn, 1) := by decide +kernel
theorem dX5_amount_0 : decode cX5_amount 0 = .ok (.aload_n 0, 1) := by decide +kernel
theorem dX5_amount_1 : decode cX5_amount 1 = .ok (.iload_n 1, 1) := by decide +kernel
theorem dX5_amount_2 : decode cX5_amount 2 = .ok (.invokevirtual 97, 3) := by decide +kernel
theorem dX5_amount_5 : decode cX5_amount 5 = .ok (.ifCond .eq 34, 3) := by decide +kernel
theorem dX5_amount_8 : decode cX5_amount 8 = .ok (.aload_n 0, 1) := by decide +kernel
theorem dX5_amount_9 : decode cX5_amount 9 = .ok (.getfield 16, 3) := by decide +kernel
theorem dX5_amount_12 : decode cX5_amount 12 = .ok (.iload_n 1, 1) := by decide +kernel
theorem dX5_amount_13 : decode cX5_amount 13 = .ok (.iaload, 1) := by decide +kernel
theorem dX5_amount_14 : decode cX5_amount 14 = .ok (.ifCond .ne 25, 3) := by decide +kernel
theorem dX5_amount_17 : decode cX5_amount 17 = .ok (.aload_n 0, 1) := by decide +kernel
theorem dX5_amount_18 : decode cX5_amount 18 = .ok (.iload_n 2, 1) := by decide +kernel
theorem dX5_amount_19 : decode cX5_amount 19 = .ok (.invokevirtual 93, 3) := by decide +kernel
theorem dX5_amount_22 : decode cX5_amount 22 = .ok (.ifCond .eq 17, 3) := by decide +kernel
theorem dX5_amount_25 : decode cX5_amount 25 = .ok (.iload_n 3, 1) := by decide +kernel
theorem dX5_amount_26 : decode cX5_amount 26 = .ok (.i2l, 1) := by decide +kernel
theorem dX5_amount_27 : decode cX5_amount 27 = .ok (.ldc2_w 100, 3) := by decide +kernel
theorem dX5_amount_30 : decode cX5_amount 30 = .ok (.ldc2_w 79, 3) := by decide +kernel
theorem dX5_amount_33 : decode cX5_amount 33 = .ok (.invokestatic 70, 3) := by decide +kernel
theorem dX5_amount_36 : decode cX5_amount 36 = .ok (.ifCond .ne 6, 3) := by decide +kernel
theorem dX5_amount_39 : decode cX5_amount 39 = .ok (.ldc 85, 2) := by decide +kernel
theorem dX5_amount_41 : decode cX5_amount 41 = .ok (.ireturn, 1) := by decide +kernel
theorem dX5_amount_42 : decode cX5_amount 42 = .ok (.aload_n 0, 1) := by decide +kernel
theorem dX5_amount_43 : decode cX5_amount 43 = .ok (.getfield 32, 3) := by decide +kernel
theorem dX5_amount_46 : decode cX5_amount 46 = .ok (.iconst 4, 1) := by decide +kernel
theorem dX5_amount_47 : decode cX5_amount 47 = .ok (.iload_n 1, 1) := by decide +kernel
theorem dX5_amount_48 : decode cX5_amount 48 = .ok (.imul, 1) := by decide +kernel
theorem dX5_amount_49 : decode cX5_amount 49 = .ok (.iload_n 2, 1) := by decide +kernel
theorem dX5_amount_50 : decode cX5_amount 50 = .ok (.iadd, 1) := by decide +kernel
theorem dX5_amount_51 : decode cX5_amount 51 = .ok (.iaload, 1) := by decide +kernel
theorem dX5_amount_52 : decode cX5_amount 52 = .ok (.istore 4, 2) := by decide +kernel
theorem dX5_amount_54 : decode cX5_amount 54 = .ok (.aload_n 0, 1) := by decide +kernel
theorem dX5_amount_55 : decode cX5_amount 55 = .ok (.getfield 32, 3) := by decide +kernel
theorem dX5_amount_58 : decode cX5_amount 58 = .ok (.iconst 4, 1) := by decide +kernel
theorem dX5_amount_59 : decode cX5_amount 59 = .ok (.iload_n 1, 1) := by decide +kernel
theorem dX5_amount_60 : decode cX5_amount 60 = .ok (.imul, 1) := by decide +kernel
theorem dX5_amount_61 : decode cX5_amount 61 = .ok (.iload_n 2, 1) := by decide +kernel
theorem dX5_amount_62 : decode cX5_amount 62 = .ok (.iadd, 1) := by decide +kernel
theorem dX5_amount_63 : decode cX5_amount 63 = .ok (.iload_n 3, 1) := by decide +kernel
theorem dX5_amount_64 : decode cX5_amount 64 = .ok (.iastore, 1) := by decide +kernel
theorem dX5_amount_65 : decode cX5_amount 65 = .ok (.iload 4, 2) := by decide +kernel
theorem dX5_amount_67 : decode cX5_amount 67 = .ok (.ireturn, 1) := by decide +kernel
theorem dX5_on_0 : decode cX5_on 0 = .ok (.aload_n 0, 1) := by decide +kernel
theorem dX5_on_1 : decode cX5_on 1 = .ok (.iload_n 1, 1) := by decide +kernel
theorem dX5_on_2 : decode cX5_on 2 = .ok (.invokevirtual 97, 3) := by decide +kernel
theorem dX5_on_5 : decode cX5_on 5 = .ok (.ifCond .ne 6, 3) := by decide +kernel
theorem dX5_on_8 : decode cX5_on 8 = .ok (.ldc 85, 2) := by decide +kernel
theorem dX5_on_10 : decode cX5_on 10 = .ok (.ireturn, 1) := by decide +kernel
theorem dX5_on_11 : decode cX5_on 11 = .ok (.aload_n 0, 1) := by decide +kernel
theorem dX5_on_12 : decode cX5_on 12 = .ok (.getfield 28, 3) := by decide +kernel
theorem dX5_on_15 : decode cX5_on 15 = .ok (.iload_n 1, 1) := by decide +kernel
theorem dX5_on_16 : decode cX5_on 16 = .ok (.baload, 1) := by decide +kernel
theorem dX5_on_17 : decode cX5_on 17 = .ok (.ifCond .eq 7, 3) := by decide +kernel
theorem dX5_on_20 : decode cX5_on 20 = .ok (.iconst 1, 1) := by decide +kernel
theorem dX5_on_21 : decode cX5_on 21 = .ok (.goto 4, 3) := by decide +kernel
theorem dX5_on_24 : decode cX5_on 24 = .ok (.iconst 0, 1) := by decide +kernel
theorem dX5_on_25 : decode cX5_on 25 = .ok (.istore_n 3, 1) := by decide +kernel
theorem dX5_on_26 : decode cX5_on 26 = .ok (.aload_n 0, 1) := by decide +kernel
theorem dX5_on_27 : decode cX5_on 27 = .ok (.getfield 28, 3) := by decide +kernel
theorem dX5_on_30 : decode cX5_on 30 = .ok (.iload_n 1, 1) := by decide +kernel
theorem dX5_on_31 : decode cX5_on 31 = .ok (.iload_n 2, 1) := by decide +kernel
theorem dX5_on_32 : decode cX5_on 32 = .ok (.bastore, 1) := by decide +kernel
theorem dX5_on_33 : decode cX5_on 33 = .ok (.iload_n 3, 1) := by decide +kernel
theorem dX5_on_34 : decode cX5_on 34 = .ok (.ireturn, 1) := by decide +kernel
theorem dX5_set_0 : decode cX5_set 0 = .ok (.iload_n 1, 1) := by decide +kernel
theorem dX5_set_1 : decode cX5_set 1 = .ok (.ifCond .ne 33, 3) := by decide +kernel
theorem dX5_set_4 : decode cX5_set 4 = .ok (.aload_n 0, 1) := by decide +kernel
theorem dX5_set_5 : decode cX5_set 5 = .ok (.iload_n 2, 1) := by decide +kernel
theorem dX5_set_6 : decode cX5_set 6 = .ok (.invokevirtual 97, 3) := by decide +kernel
theorem dX5_set_9 : decode cX5_set 9 = .ok (.ifCond .eq 21, 3) := by decide +kernel
theorem dX5_set_12 : decode cX5_set 12 = .ok (.aload_n 0, 1) := by decide +kernel
theorem dX5_set_13 : decode cX5_set 13 = .ok (.getfield 16, 3) := by decide +kernel
theorem dX5_set_16 : decode cX5_set 16 = .ok (.iload_n 2, 1) := by decide +kernel
theorem dX5_set_17 : decode cX5_set 17 = .ok (.iaload, 1) := by decide +kernel
theorem dX5_set_18 : decode cX5_set 18 = .ok (.iload_n 3, 1) := by decide +kernel
theorem dX5_set_19 : decode cX5_set 19 = .ok (.i2l, 1) := by decide +kernel
theorem dX5_set_20 : decode cX5_set 20 = .ok (.invokestatic 89, 3) := by decide +kernel
theorem dX5_set_23 : decode cX5_set 23 = .ok (.ifCond .eq 7, 3) := by decide +kernel
theorem dX5_set_26 : decode cX5_set 26 = .ok (.iconst 1, 1) := by decide +kernel
theorem dX5_set_27 : decode cX5_set 27 = .ok (.goto 59, 3) := by decide +kernel
theorem dX5_set_30 : decode cX5_set 30 = .ok (.iconst 0, 1) := by decide +kernel
theorem dX5_set_31 : decode cX5_set 31 = .ok (.goto 55, 3) := by decide +kernel
theorem dX5_set_34 : decode cX5_set 34 = .ok (.aload_n 0, 1) := by decide +kernel
theorem dX5_set_35 : decode cX5_set 35 = .ok (.iload_n 2, 1) := by decide +kernel
theorem dX5_set_36 : decode cX5_set 36 = .ok (.invokevirtual 93, 3) := by decide +kernel
theorem dX5_set_39 : decode cX5_set 39 = .ok (.ifCond .eq 46, 3) := by decide +kernel
theorem dX5_set_42 : decode cX5_set 42 = .ok (.iload_n 1, 1) := by decide +kernel
theorem dX5_set_43 : decode cX5_set 43 = .ok (.iconst 1, 1) := by decide +kernel
theorem dX5_set_44 : decode cX5_set 44 = .ok (.if_icmp .ne 20, 3) := by decide +kernel
theorem dX5_set_47 : decode cX5_set 47 = .ok (.iload_n 3, 1) := by decide +kernel
theorem dX5_set_48 : decode cX5_set 48 = .ok (.i2l, 1) := by decide +kernel
theorem dX5_set_49 : decode cX5_set 49 = .ok (.ldc2_w 81, 3) := by decide +kernel
theorem dX5_set_52 : decode cX5_set 52 = .ok (.ldc2_w 83, 3) := by decide +kernel
theorem dX5_set_55 : decode cX5_set 55 = .ok (.invokestatic 70, 3) := by decide +kernel
theorem dX5_set_58 : decode cX5_set 58 = .ok (.ifCond .eq 27, 3) := by decide +kernel
theorem dX5_set_61 : decode cX5_set 61 = .ok (.goto 20, 3) := by decide +kernel
theorem dX5_set_64 : decode cX5_set 64 = .ok (.iload_n 1, 1) := by decide +kernel
theorem dX5_set_65 : decode cX5_set 65 = .ok (.iconst 2, 1) := by decide +kernel
theorem dX5_set_66 : decode cX5_set 66 = .ok (.if_icmp .ne 19, 3) := by decide +kernel
theorem dX5_set_69 : decode cX5_set 69 = .ok (.iload_n 3, 1) := by decide +kernel
theorem dX5_set_70 : decode cX5_set 70 = .ok (.i2l, 1) := by decide +kernel
theorem dX5_set_71 : decode cX5_set 71 = .ok (.lconst 0, 1) := by decide +kernel
theorem dX5_set_72 : decode cX5_set 72 = .ok (.ldc2_w 79, 3) := by decide +kernel
theorem dX5_set_75 : decode cX5_set 75 = .ok (.invokestatic 70, 3) := by decide +kernel
theorem dX5_set_78 : decode cX5_set 78 = .ok (.ifCond .eq 7, 3) := by decide +kernel
theorem dX5_set_81 : decode cX5_set 81 = .ok (.iconst 1, 1) := by decide +kernel
theorem dX5_set_82 : decode cX5_set 82 = .ok (.goto 4, 3) := by decide +kernel
theorem dX5_set_85 : decode cX5_set 85 = .ok (.iconst 0, 1) := by decide +kernel
theorem dX5_set_86 : decode cX5_set 86 = .ok (.istore 4, 2) := by decide +kernel
theorem dX5_set_88 : decode cX5_set 88 = .ok (.iload 4, 2) := by decide +kernel
theorem dX5_set_90 : decode cX5_set 90 = .ok (.ifCond .ne 6, 3) := by decide +kernel
theorem dX5_set_93 : decode cX5_set 93 = .ok (.ldc 85, 2) := by decide +kernel
theorem dX5_set_95 : decode cX5_set 95 = .ok (.ireturn, 1) := by decide +kernel
theorem dX5_set_96 : decode cX5_set 96 = .ok (.iload_n 1, 1) := by decide +kernel
theorem dX5_set_97 : decode cX5_set 97 = .ok (.ifCond .ne 12, 3) := by decide +kernel
theorem dX5_set_100 : decode cX5_set 100 = .ok (.aload_n 0, 1) := by decide +kernel
theorem dX5_set_101 : decode cX5_set 101 = .ok (.getfield 25, 3) := by decide +kernel
theorem dX5_set_104 : decode cX5_set 104 = .ok (.iload_n 2, 1) := by decide +kernel
theorem dX5_set_105 : decode cX5_set 105 = .ok (.iaload, 1) := by decide +kernel
theorem dX5_set_106 : decode cX5_set 106 = .ok (.goto 23, 3) := by decide +kernel
theorem dX5_set_109 : decode cX5_set 109 = .ok (.iload_n 1, 1) := by decide +kernel
theorem dX5_set_110 : decode cX5_set 110 = .ok (.iconst 1, 1) := by decide +kernel
theorem dX5_set_111 : decode cX5_set 111 = .ok (.if_icmp .ne 12, 3) := by decide +kernel
theorem dX5_set_114 : decode cX5_set 114 = .ok (.aload_n 0, 1) := by decide +kernel
theorem dX5_set_115 : decode cX5_set 115 = .ok (.getfield 7, 3) := by decide +kernel
theorem dX5_set_118 : decode cX5_set 118 = .ok (.iload_n 2, 1) := by decide +kernel
theorem dX5_set_119 : decode cX5_set 119 = .ok (.iaload, 1) := by decide +kernel
theorem dX5_set_120 : decode cX5_set 120 = .ok (.goto 9, 3) := by decide +kernel
theorem dX5_set_123 : decode cX5_set 123 = .ok (.aload_n 0, 1) := by decide +kernel
theorem dX5_set_124 : decode cX5_set 124 = .ok (.getfield 13, 3) := by decide +kernel
theorem dX5_set_127 : decode cX5_set 127 = .ok (.iload_n 2, 1) := by decide +kernel
theorem dX5_set_128 : decode cX5_set 128 = .ok (.iaload, 1) := by decide +kernel
theorem dX5_set_129 : decode cX5_set 129 = .ok (.istore 5, 2) := by decide +kernel
theorem dX5_set_131 : decode cX5_set 131 = .ok (.iload_n 1, 1) := by decide +kernel
theorem dX5_set_132 : decode cX5_set 132 = .ok (.ifCond .ne 13, 3) := by decide +kernel
theorem dX5_set_135 : decode cX5_set 135 = .ok (.aload_n 0, 1) := by decide +kernel
theorem dX5_set_136 : decode cX5_set 136 = .ok (.getfield 25, 3) := by decide +kernel
theorem dX5_set_139 : decode cX5_set 139 = .ok (.iload_n 2, 1) := by decide +kernel
theorem dX5_set_140 : decode cX5_set 140 = .ok (.iload_n 3, 1) := by decide +kernel
theorem dX5_set_141 : decode cX5_set 141 = .ok (.iastore, 1) := by decide +kernel
theorem dX5_set_142 : decode cX5_set 142 = .ok (.goto 25, 3) := by decide +kernel
theorem dX5_set_145 : decode cX5_set 145 = .ok (.iload_n 1, 1) := by decide +kernel
theorem dX5_set_146 : decode cX5_set 146 = .ok (.iconst 1, 1) := by decide +kernel
theorem dX5_set_147 : decode cX5_set 147 = .ok (.if_icmp .ne 13, 3) := by decide +kernel
theorem dX5_set_150 : decode cX5_set 150 = .ok (.aload_n 0, 1) := by decide +kernel
theorem dX5_set_151 : decode cX5_set 151 = .ok (.getfield 7, 3) := by decide +kernel
theorem dX5_set_154 : decode cX5_set 154 = .ok (.iload_n 2, 1) := by decide +kernel
theorem dX5_set_155 : decode cX5_set 155 = .ok (.iload_n 3, 1) := by decide +kernel
theorem dX5_set_156 : decode cX5_set 156 = .ok (.iastore, 1) := by decide +kernel
theorem dX5_set_157 : decode cX5_set 157 = .ok (.goto 10, 3) := by decide +kernel
theorem dX5_set_160 : decode cX5_set 160 = .ok (.aload_n 0, 1) := by decide +kernel
theorem dX5_set_161 : decode cX5_set 161 = .ok (.getfield 13, 3) := by decide +kernel
theorem dX5_set_164 : decode cX5_set 164 = .ok (.iload_n 2, 1) := by decide +kernel
theorem dX5_set_165 : decode cX5_set 165 = .ok (.iload_n 3, 1) := by decide +kernel
theorem dX5_set_166 : decode cX5_set 166 = .ok (.iastore, 1) := by decide +kernel
theorem dX5_set_167 : decode cX5_set 167 = .ok (.iload 5, 2) := by decide +kernel
theorem dX5_set_169 : decode cX5_set 169 = .ok (.ireturn, 1) := by decide +kernel
theorem dX5_isAs_0 : decode cX5_isAs 0 = .ok (.aload_n 0, 1) := by decide +kernel
theorem dX5_isAs_1 : decode cX5_isAs 1 = .ok (.getfield 16, 3) := by decide +kernel
theorem dX5_isAs_4 : decode cX5_isAs 4 = .ok (.iload_n 1, 1) := by decide +kernel
theorem dX5_isAs_5 : decode cX5_isAs 5 = .ok (.iaload, 1) := by decide +kernel
theorem dX5_isAs_6 : decode cX5_isAs 6 = .ok (.iconst 1, 1) := by decide +kernel
theorem dX5_isAs_7 : decode cX5_isAs 7 = .ok (.if_icmp .ne 35, 3) := by decide +kernel
theorem dX5_isAs_10 : decode cX5_isAs 10 = .ok (.aload_n 2, 1) := by decide +kernel
theorem dX5_isAs_11 : decode cX5_isAs 11 = .ok (.aload_n 0, 1) := by decide +kernel
theorem dX5_isAs_12 : decode cX5_isAs 12 = .ok (.getfield 19, 3) := by decide +kernel
theorem dX5_isAs_15 : decode cX5_isAs 15 = .ok (.iload_n 1, 1) := by decide +kernel
theorem dX5_isAs_16 : decode cX5_isAs 16 = .ok (.iaload, 1) := by decide +kernel
theorem dX5_isAs_17 : decode cX5_isAs 17 = .ok (.iaload, 1) := by decide +kernel
theorem dX5_isAs_18 : decode cX5_isAs 18 = .ok (.aload_n 2, 1) := by decide +kernel
theorem dX5_isAs_19 : decode cX5_isAs 19 = .ok (.aload_n 0, 1) := by decide +kernel
theorem dX5_isAs_20 : decode cX5_isAs 20 = .ok (.getfield 22, 3) := by decide +kernel
theorem dX5_isAs_23 : decode cX5_isAs 23 = .ok (.iload_n 1, 1) := by decide +kernel
theorem dX5_isAs_24 : decode cX5_isAs 24 = .ok (.iaload, 1) := by decide +kernel
theorem dX5_isAs_25 : decode cX5_isAs 25 = .ok (.iaload, 1) := by decide +kernel
theorem dX5_isAs_26 : decode cX5_isAs 26 = .ok (.isub, 1) := by decide +kernel
theorem dX5_isAs_27 : decode cX5_isAs 27 = .ok (.aload_n 0, 1) := by decide +kernel
theorem dX5_isAs_28 : decode cX5_isAs 28 = .ok (.getfield 25, 3) := by decide +kernel
theorem dX5_isAs_31 : decode cX5_isAs 31 = .ok (.iload_n 1, 1) := by decide +kernel
theorem dX5_isAs_32 : decode cX5_isAs 32 = .ok (.iaload, 1) := by decide +kernel
theorem dX5_isAs_33 : decode cX5_isAs 33 = .ok (.if_icmp .gt 7, 3) := by decide +kernel
theorem dX5_isAs_36 : decode cX5_isAs 36 = .ok (.iconst 1, 1) := by decide +kernel
theorem dX5_isAs_37 : decode cX5_isAs 37 = .ok (.goto 4, 3) := by decide +kernel
theorem dX5_isAs_40 : decode cX5_isAs 40 = .ok (.iconst 0, 1) := by decide +kernel
theorem dX5_isAs_41 : decode cX5_isAs 41 = .ok (.ireturn, 1) := by decide +kernel
theorem dX5_isAs_42 : decode cX5_isAs 42 = .ok (.aload_n 0, 1) := by decide +kernel
theorem dX5_isAs_43 : decode cX5_isAs 43 = .ok (.getfield 16, 3) := by decide +kernel
theorem dX5_isAs_46 : decode cX5_isAs 46 = .ok (.iload_n 1, 1) := by decide +kernel
theorem dX5_isAs_47 : decode cX5_isAs 47 = .ok (.iaload, 1) := by decide +kernel
theorem dX5_isAs_48 : decode cX5_isAs 48 = .ok (.iconst 2, 1) := by decide +kernel
theorem dX5_isAs_49 : decode cX5_isAs 49 = .ok (.if_icmp .ne 43, 3) := by decide +kernel
theorem dX5_isAs_52 : decode cX5_isAs 52 = .ok (.aload_n 2, 1) := by decide +kernel
theorem dX5_isAs_53 : decode cX5_isAs 53 = .ok (.aload_n 0, 1) := by decide +kernel
theorem dX5_isAs_54 : decode cX5_isAs 54 = .ok (.getfield 19, 3) := by decide +kernel
theorem dX5_isAs_57 : decode cX5_isAs 57 = .ok (.iload_n 1, 1) := by decide +kernel
theorem dX5_isAs_58 : decode cX5_isAs 58 = .ok (.iaload, 1) := by decide +kernel
theorem dX5_isAs_59 : decode cX5_isAs 59 = .ok (.iaload, 1) := by decide +kernel
theorem dX5_isAs_60 : decode cX5_isAs 60 = .ok (.aload_n 0, 1) := by decide +kernel
theorem dX5_isAs_61 : decode cX5_isAs 61 = .ok (.getfield 25, 3) := by decide +kernel
theorem dX5_isAs_64 : decode cX5_isAs 64 = .ok (.iload_n 1, 1) := by decide +kernel
theorem dX5_isAs_65 : decode cX5_isAs 65 = .ok (.iaload, 1) := by decide +kernel
theorem dX5_isAs_66 : decode cX5_isAs 66 = .ok (.if_icmp .le 20, 3) := by decide +kernel
theorem dX5_isAs_69 : decode cX5_isAs 69 = .ok (.aload_n 2, 1) := by decide +kernel
theorem dX5_isAs_70 : decode cX5_isAs 70 = .ok (.aload_n 0, 1) := by decide +kernel
theorem dX5_isAs_71 : decode cX5_isAs 71 = .ok (.getfield 22, 3) := by decide +kernel
theorem dX5_isAs_74 : decode cX5_isAs 74 = .ok (.iload_n 1, 1) := by decide +kernel
theorem dX5_isAs_75 : decode cX5_isAs 75 = .ok (.iaload, 1) := by decide +kernel
theorem dX5_isAs_76 : decode cX5_isAs 76 = .ok (.iaload, 1) := by decide +kernel
theorem dX5_isAs_77 : decode cX5_isAs 77 = .ok (.aload_n 0, 1) := by decide +kernel
theorem dX5_isAs_78 : decode cX5_isAs 78 = .ok (.getfield 25, 3) := by decide +kernel
theorem dX5_isAs_81 : decode cX5_isAs 81 = .ok (.iload_n 1, 1) := by decide +kernel
theorem dX5_isAs_82 : decode cX5_isAs 82 = .ok (.iaload, 1) := by decide +kernel
theorem dX5_isAs_83 : decode cX5_isAs 83 = .ok (.if_icmp .gt 7, 3) := by decide +kernel
theorem dX5_isAs_86 : decode cX5_isAs 86 = .ok (.iconst 1, 1) := by decide +kernel
theorem dX5_isAs_87 : decode cX5_isAs 87 = .ok (.goto 4, 3) := by decide +kernel
theorem dX5_isAs_90 : decode cX5_isAs 90 = .ok (.iconst 0, 1) := by decide +kernel
theorem dX5_isAs_91 : decode cX5_isAs 91 = .ok (.ireturn, 1) := by decide +kernel
theorem dX5_isAs_92 : decode cX5_isAs 92 = .ok (.iconst 0, 1) := by decide +kernel
theorem dX5_isAs_93 : decode cX5_isAs 93 = .ok (.istore_n 3, 1) := by decide +kernel
theorem dX5_isAs_94 : decode cX5_isAs 94 = .ok (.iconst 0, 1) := by decide +kernel
theorem dX5_isAs_95 : decode cX5_isAs 95 = .ok (.istore 4, 2) := by decide +kernel
theorem dX5_isAs_97 : decode cX5_isAs 97 = .ok (.iload 4, 2) := by decide +kernel
theorem dX5_isAs_99 : decode cX5_isAs 99 = .ok (.aload_n 0, 1) := by decide +kernel
theorem dX5_isAs_100 : decode cX5_isAs 100 = .ok (.getfield 66, 3) := by decide +kernel
theorem dX5_isAs_103 : decode cX5_isAs 103 = .ok (.if_icmp .ge 28, 3) := by decide +kernel
theorem dX5_isAs_106 : decode cX5_isAs 106 = .ok (.iload_n 3, 1) := by decide +kernel
theorem dX5_isAs_107 : decode cX5_isAs 107 = .ok (.aload_n 0, 1) := by decide +kernel
theorem dX5_isAs_108 : decode cX5_isAs 108 = .ok (.getfield 32, 3) := by decide +kernel
theorem dX5_isAs_111 : decode cX5_isAs 111 = .ok (.iconst 4, 1) := by decide +kernel
theorem dX5_isAs_112 : decode cX5_isAs 112 = .ok (.iload_n 1, 1) := by decide +kernel
theorem dX5_isAs_113 : decode cX5_isAs 113 = .ok (.imul, 1) := by decide +kernel
theorem dX5_isAs_114 : decode cX5_isAs 114 = .ok (.iload 4, 2) := by decide +kernel
theorem dX5_isAs_116 : decode cX5_isAs 116 = .ok (.iadd, 1) := by decide +kernel
theorem dX5_isAs_117 : decode cX5_isAs 117 = .ok (.iaload, 1) := by decide +kernel
theorem dX5_isAs_118 : decode cX5_isAs 118 = .ok (.aload_n 2, 1) := by decide +kernel
theorem dX5_isAs_119 : decode cX5_isAs 119 = .ok (.iload 4, 2) := by decide +kernel
theorem dX5_isAs_121 : decode cX5_isAs 121 = .ok (.iaload, 1) := by decide +kernel
theorem dX5_isAs_122 : decode cX5_isAs 122 = .ok (.imul, 1) := by decide +kernel
theorem dX5_isAs_123 : decode cX5_isAs 123 = .ok (.iadd, 1) := by decide +kernel
theorem dX5_isAs_124 : decode cX5_isAs 124 = .ok (.istore_n 3, 1) := by decide +kernel
theorem dX5_isAs_125 : decode cX5_isAs 125 = .ok (.iinc 4 1, 3) := by decide +kernel
theorem dX5_isAs_128 : decode cX5_isAs 128 = .ok (.goto (-31), 3) := by decide +kernel
theorem dX5_isAs_131 : decode cX5_isAs 131 = .ok (.iload_n 3, 1) := by decide +kernel
theorem dX5_isAs_132 : decode cX5_isAs 132 = .ok (.aload_n 0, 1) := by decide +kernel
theorem dX5_isAs_133 : decode cX5_isAs 133 = .ok (.getfield 25, 3) := by decide +kernel
theorem dX5_isAs_136 : decode cX5_isAs 136 = .ok (.iload_n 1, 1) := by decide +kernel
theorem dX5_isAs_137 : decode cX5_isAs 137 = .ok (.iaload, 1) := by decide +kernel
theorem dX5_isAs_138 : decode cX5_isAs 138 = .ok (.if_icmp .gt 7, 3) := by decide +kernel
theorem dX5_isAs_141 : decode cX5_isAs 141 = .ok (.iconst 1, 1) := by decide +kernel
theorem dX5_isAs_142 : decode cX5_isAs 142 = .ok (.goto 4, 3) := by decide +kernel
theorem dX5_isAs_145 : decode cX5_isAs 145 = .ok (.iconst 0, 1) := by decide +kernel
theorem dX5_isAs_146 : decode cX5_isAs 146 = .ok (.ireturn, 1) := by decide +kernel
theorem dX5_fits_0 : decode cX5_fits 0 = .ok (.iconst 0, 1) := by decide +kernel
theorem dX5_fits_1 : decode cX5_fits 1 = .ok (.istore_n 2, 1) := by decide +kernel
theorem dX5_fits_2 : decode cX5_fits 2 = .ok (.iload_n 2, 1) := by decide +kernel
theorem dX5_fits_3 : decode cX5_fits 3 = .ok (.aload_n 0, 1) := by decide +kernel
theorem dX5_fits_4 : decode cX5_fits 4 = .ok (.getfield 74, 3) := by decide +kernel
theorem dX5_fits_7 : decode cX5_fits 7 = .ok (.if_icmp .ge 29, 3) := by decide +kernel
theorem dX5_fits_10 : decode cX5_fits 10 = .ok (.aload_n 0, 1) := by decide +kernel
theorem dX5_fits_11 : decode cX5_fits 11 = .ok (.getfield 28, 3) := by decide +kernel
theorem dX5_fits_14 : decode cX5_fits 14 = .ok (.iload_n 2, 1) := by decide +kernel
theorem dX5_fits_15 : decode cX5_fits 15 = .ok (.baload, 1) := by decide +kernel
theorem dX5_fits_16 : decode cX5_fits 16 = .ok (.ifCond .eq 14, 3) := by decide +kernel
theorem dX5_fits_19 : decode cX5_fits 19 = .ok (.aload_n 0, 1) := by decide +kernel
theorem dX5_fits_20 : decode cX5_fits 20 = .ok (.iload_n 2, 1) := by decide +kernel
theorem dX5_fits_21 : decode cX5_fits 21 = .ok (.aload_n 1, 1) := by decide +kernel
theorem dX5_fits_22 : decode cX5_fits 22 = .ok (.invokevirtual 102, 3) := by decide +kernel
theorem dX5_fits_25 : decode cX5_fits 25 = .ok (.ifCond .ne 5, 3) := by decide +kernel
theorem dX5_fits_28 : decode cX5_fits 28 = .ok (.iconst 0, 1) := by decide +kernel
theorem dX5_fits_29 : decode cX5_fits 29 = .ok (.ireturn, 1) := by decide +kernel
theorem dX5_fits_30 : decode cX5_fits 30 = .ok (.iinc 2 1, 3) := by decide +kernel
theorem dX5_fits_33 : decode cX5_fits 33 = .ok (.goto (-31), 3) := by decide +kernel
theorem dX5_fits_36 : decode cX5_fits 36 = .ok (.iconst 1, 1) := by decide +kernel
theorem dX5_fits_37 : decode cX5_fits 37 = .ok (.ireturn, 1) := by decide +kernel
theorem dX5_valueOf_0 : decode cX5_valueOf 0 = .ok (.iconst 0, 1) := by decide +kernel
theorem dX5_valueOf_1 : decode cX5_valueOf 1 = .ok (.istore_n 2, 1) := by decide +kernel
theorem dX5_valueOf_2 : decode cX5_valueOf 2 = .ok (.iconst 0, 1) := by decide +kernel
theorem dX5_valueOf_3 : decode cX5_valueOf 3 = .ok (.istore_n 3, 1) := by decide +kernel
theorem dX5_valueOf_4 : decode cX5_valueOf 4 = .ok (.iload_n 3, 1) := by decide +kernel
theorem dX5_valueOf_5 : decode cX5_valueOf 5 = .ok (.aload_n 0, 1) := by decide +kernel
theorem dX5_valueOf_6 : decode cX5_valueOf 6 = .ok (.getfield 66, 3) := by decide +kernel
theorem dX5_valueOf_9 : decode cX5_valueOf 9 = .ok (.if_icmp .ge 22, 3) := by decide +kernel
theorem dX5_valueOf_12 : decode cX5_valueOf 12 = .ok (.iload_n 2, 1) := by decide +kernel
theorem dX5_valueOf_13 : decode cX5_valueOf 13 = .ok (.aload_n 0, 1) := by decide +kernel
theorem dX5_valueOf_14 : decode cX5_valueOf 14 = .ok (.getfield 7, 3) := by decide +kernel
theorem dX5_valueOf_17 : decode cX5_valueOf 17 = .ok (.iload_n 3, 1) := by decide +kernel
theorem dX5_valueOf_18 : decode cX5_valueOf 18 = .ok (.iaload, 1) := by decide +kernel
theorem dX5_valueOf_19 : decode cX5_valueOf 19 = .ok (.aload_n 1, 1) := by decide +kernel
theorem dX5_valueOf_20 : decode cX5_valueOf 20 = .ok (.iload_n 3, 1) := by decide +kernel
theorem dX5_valueOf_21 : decode cX5_valueOf 21 = .ok (.iaload, 1) := by decide +kernel
theorem dX5_valueOf_22 : decode cX5_valueOf 22 = .ok (.imul, 1) := by decide +kernel
theorem dX5_valueOf_23 : decode cX5_valueOf 23 = .ok (.iadd, 1) := by decide +kernel
theorem dX5_valueOf_24 : decode cX5_valueOf 24 = .ok (.istore_n 2, 1) := by decide +kernel
theorem dX5_valueOf_25 : decode cX5_valueOf 25 = .ok (.iinc 3 1, 3) := by decide +kernel
theorem dX5_valueOf_28 : decode cX5_valueOf 28 = .ok (.goto (-24), 3) := by decide +kernel
theorem dX5_valueOf_31 : decode cX5_valueOf 31 = .ok (.iload_n 2, 1) := by decide +kernel
theorem dX5_valueOf_32 : decode cX5_valueOf 32 = .ok (.ireturn, 1) := by decide +kernel
theorem dX5_look_0 : decode cX5_look 0 = .ok (.aload_n 0, 1) := by decide +kernel
theorem dX5_look_1 : decode cX5_look 1 = .ok (.ldc 106, 2) := by decide +kernel
theorem dX5_look_3 : decode cX5_look 3 = .ok (.putfield 107, 3) := by decide +kernel
theorem dX5_look_6 : decode cX5_look 6 = .ok (.aload_n 0, 1) := by decide +kernel
theorem dX5_look_7 : decode cX5_look 7 = .ok (.iconst 0, 1) := by decide +kernel
theorem dX5_look_8 : decode cX5_look 8 = .ok (.putfield 110, 3) := by decide +kernel
theorem dX5_look_11 : decode cX5_look 11 = .ok (.aload_n 0, 1) := by decide +kernel
theorem dX5_look_12 : decode cX5_look 12 = .ok (.iconst 0, 1) := by decide +kernel
theorem dX5_look_13 : decode cX5_look 13 = .ok (.putfield 113, 3) := by decide +kernel
theorem dX5_look_16 : decode cX5_look 16 = .ok (.aload_n 0, 1) := by decide +kernel
theorem dX5_look_17 : decode cX5_look 17 = .ok (.iconst 0, 1) := by decide +kernel
theorem dX5_look_18 : decode cX5_look 18 = .ok (.putfield 116, 3) := by decide +kernel
theorem dX5_look_21 : decode cX5_look 21 = .ok (.iconst 0, 1) := by decide +kernel
theorem dX5_look_22 : decode cX5_look 22 = .ok (.istore_n 3, 1) := by decide +kernel
theorem dX5_look_23 : decode cX5_look 23 = .ok (.iload_n 3, 1) := by decide +kernel
theorem dX5_look_24 : decode cX5_look 24 = .ok (.aload_n 0, 1) := by decide +kernel
theorem dX5_look_25 : decode cX5_look 25 = .ok (.getfield 66, 3) := by decide +kernel
theorem dX5_look_28 : decode cX5_look 28 = .ok (.if_icmp .ge 25, 3) := by decide +kernel
theorem dX5_look_31 : decode cX5_look 31 = .ok (.aload_n 0, 1) := by decide +kernel
theorem dX5_look_32 : decode cX5_look 32 = .ok (.getfield 38, 3) := by decide +kernel
theorem dX5_look_35 : decode cX5_look 35 = .ok (.iload_n 3, 1) := by decide +kernel
theorem dX5_look_36 : decode cX5_look 36 = .ok (.iload_n 3, 1) := by decide +kernel
theorem dX5_look_37 : decode cX5_look 37 = .ok (.iload_n 1, 1) := by decide +kernel
theorem dX5_look_38 : decode cX5_look 38 = .ok (.if_icmp .ne 7, 3) := by decide +kernel
theorem dX5_look_41 : decode cX5_look 41 = .ok (.iload_n 2, 1) := by decide +kernel
theorem dX5_look_42 : decode cX5_look 42 = .ok (.goto 4, 3) := by decide +kernel
theorem dX5_look_45 : decode cX5_look 45 = .ok (.iconst 0, 1) := by decide +kernel
theorem dX5_look_46 : decode cX5_look 46 = .ok (.iastore, 1) := by decide +kernel
theorem dX5_look_47 : decode cX5_look 47 = .ok (.iinc 3 1, 3) := by decide +kernel
theorem dX5_look_50 : decode cX5_look 50 = .ok (.goto (-27), 3) := by decide +kernel
theorem dX5_look_53 : decode cX5_look 53 = .ok (.iconst 1, 1) := by decide +kernel
theorem dX5_look_54 : decode cX5_look 54 = .ok (.istore_n 3, 1) := by decide +kernel
theorem dX5_look_55 : decode cX5_look 55 = .ok (.iload_n 3, 1) := by decide +kernel
theorem dX5_look_56 : decode cX5_look 56 = .ok (.ifCond .eq 117, 3) := by decide +kernel
theorem dX5_look_59 : decode cX5_look 59 = .ok (.aload_n 0, 1) := by decide +kernel
theorem dX5_look_60 : decode cX5_look 60 = .ok (.dup, 1) := by decide +kernel
theorem dX5_look_61 : decode cX5_look 61 = .ok (.getfield 116, 3) := by decide +kernel
theorem dX5_look_64 : decode cX5_look 64 = .ok (.iconst 1, 1) := by decide +kernel
theorem dX5_look_65 : decode cX5_look 65 = .ok (.iadd, 1) := by decide +kernel
theorem dX5_look_66 : decode cX5_look 66 = .ok (.putfield 116, 3) := by decide +kernel
theorem dX5_look_69 : decode cX5_look 69 = .ok (.aload_n 0, 1) := by decide +kernel
theorem dX5_look_70 : decode cX5_look 70 = .ok (.aload_n 0, 1) := by decide +kernel
theorem dX5_look_71 : decode cX5_look 71 = .ok (.getfield 38, 3) := by decide +kernel
end
section
theorem dX5_look_74 : decode cX5_look 74 = .ok (.invokevirtual 119, 3) := by decide +kernel
theorem dX5_look_77 : decode cX5_look 77 = .ok (.ifCond .eq 7, 3) := by decide +kernel
theorem dX5_look_80 : decode cX5_look 80 = .ok (.aload_n 0, 1) := by decide +kernel
theorem dX5_look_81 : decode cX5_look 81 = .ok (.invokevirtual 123, 3) := by decide +kernel
theorem dX5_look_84 : decode cX5_look 84 = .ok (.aload_n 0, 1) := by decide +kernel
theorem dX5_look_85 : decode cX5_look 85 = .ok (.getfield 66, 3) := by decide +kernel
theorem dX5_look_88 : decode cX5_look 88 = .ok (.iconst 1, 1) := by decide +kernel
theorem dX5_look_89 : decode cX5_look 89 = .ok (.isub, 1) := by decide +kernel
theorem dX5_look_90 : decode cX5_look 90 = .ok (.istore 4, 2) := by decide +kernel
theorem dX5_look_92 : decode cX5_look 92 = .ok (.iload 4, 2) := by decide +kernel
theorem dX5_look_94 : decode cX5_look 94 = .ok (.ifCond .lt 50, 3) := by decide +kernel
theorem dX5_look_97 : decode cX5_look 97 = .ok (.iload 4, 2) := by decide +kernel
theorem dX5_look_99 : decode cX5_look 99 = .ok (.iload_n 1, 1) := by decide +kernel
theorem dX5_look_100 : decode cX5_look 100 = .ok (.if_icmp .eq 20, 3) := by decide +kernel
theorem dX5_look_103 : decode cX5_look 103 = .ok (.aload_n 0, 1) := by decide +kernel
theorem dX5_look_104 : decode cX5_look 104 = .ok (.getfield 38, 3) := by decide +kernel
theorem dX5_look_107 : decode cX5_look 107 = .ok (.iload 4, 2) := by decide +kernel
theorem dX5_look_109 : decode cX5_look 109 = .ok (.iaload, 1) := by decide +kernel
theorem dX5_look_110 : decode cX5_look 110 = .ok (.aload_n 0, 1) := by decide +kernel
theorem dX5_look_111 : decode cX5_look 111 = .ok (.getfield 13, 3) := by decide +kernel
theorem dX5_look_114 : decode cX5_look 114 = .ok (.iload 4, 2) := by decide +kernel
theorem dX5_look_116 : decode cX5_look 116 = .ok (.iaload, 1) := by decide +kernel
theorem dX5_look_117 : decode cX5_look 117 = .ok (.if_icmp .ne 27, 3) := by decide +kernel
theorem dX5_look_120 : decode cX5_look 120 = .ok (.aload_n 0, 1) := by decide +kernel
theorem dX5_look_121 : decode cX5_look 121 = .ok (.getfield 38, 3) := by decide +kernel
theorem dX5_look_124 : decode cX5_look 124 = .ok (.iload 4, 2) := by decide +kernel
theorem dX5_look_126 : decode cX5_look 126 = .ok (.iload 4, 2) := by decide +kernel
theorem dX5_look_128 : decode cX5_look 128 = .ok (.iload_n 1, 1) := by decide +kernel
theorem dX5_look_129 : decode cX5_look 129 = .ok (.if_icmp .ne 7, 3) := by decide +kernel
theorem dX5_look_132 : decode cX5_look 132 = .ok (.iload_n 2, 1) := by decide +kernel
theorem dX5_look_133 : decode cX5_look 133 = .ok (.goto 4, 3) := by decide +kernel
theorem dX5_look_136 : decode cX5_look 136 = .ok (.iconst 0, 1) := by decide +kernel
theorem dX5_look_137 : decode cX5_look 137 = .ok (.iastore, 1) := by decide +kernel
theorem dX5_look_138 : decode cX5_look 138 = .ok (.iinc 4 (-1), 3) := by decide +kernel
theorem dX5_look_141 : decode cX5_look 141 = .ok (.goto (-49), 3) := by decide +kernel
theorem dX5_look_144 : decode cX5_look 144 = .ok (.iload 4, 2) := by decide +kernel
theorem dX5_look_146 : decode cX5_look 146 = .ok (.ifCond .lt 7, 3) := by decide +kernel
theorem dX5_look_149 : decode cX5_look 149 = .ok (.iconst 1, 1) := by decide +kernel
theorem dX5_look_150 : decode cX5_look 150 = .ok (.goto 4, 3) := by decide +kernel
theorem dX5_look_153 : decode cX5_look 153 = .ok (.iconst 0, 1) := by decide +kernel
theorem dX5_look_154 : decode cX5_look 154 = .ok (.istore_n 3, 1) := by decide +kernel
theorem dX5_look_155 : decode cX5_look 155 = .ok (.iload_n 3, 1) := by decide +kernel
theorem dX5_look_156 : decode cX5_look 156 = .ok (.ifCond .eq 14, 3) := by decide +kernel
theorem dX5_look_159 : decode cX5_look 159 = .ok (.aload_n 0, 1) := by decide +kernel
theorem dX5_look_160 : decode cX5_look 160 = .ok (.getfield 38, 3) := by decide +kernel
theorem dX5_look_163 : decode cX5_look 163 = .ok (.iload 4, 2) := by decide +kernel
theorem dX5_look_165 : decode cX5_look 165 = .ok (.dup2, 1) := by decide +kernel
theorem dX5_look_166 : decode cX5_look 166 = .ok (.iaload, 1) := by decide +kernel
theorem dX5_look_167 : decode cX5_look 167 = .ok (.iconst 1, 1) := by decide +kernel
theorem dX5_look_168 : decode cX5_look 168 = .ok (.iadd, 1) := by decide +kernel
theorem dX5_look_169 : decode cX5_look 169 = .ok (.iastore, 1) := by decide +kernel
theorem dX5_look_170 : decode cX5_look 170 = .ok (.goto (-115), 3) := by decide +kernel
theorem dX5_look_173 : decode cX5_look 173 = .ok (.return_, 1) := by decide +kernel
theorem dX5_take_0 : decode cX5_take 0 = .ok (.aload_n 0, 1) := by decide +kernel
theorem dX5_take_1 : decode cX5_take 1 = .ok (.dup, 1) := by decide +kernel
theorem dX5_take_2 : decode cX5_take 2 = .ok (.getfield 113, 3) := by decide +kernel
theorem dX5_take_5 : decode cX5_take 5 = .ok (.iconst 1, 1) := by decide +kernel
theorem dX5_take_6 : decode cX5_take 6 = .ok (.iadd, 1) := by decide +kernel
theorem dX5_take_7 : decode cX5_take 7 = .ok (.putfield 113, 3) := by decide +kernel
theorem dX5_take_10 : decode cX5_take 10 = .ok (.aload_n 0, 1) := by decide +kernel
theorem dX5_take_11 : decode cX5_take 11 = .ok (.aload_n 0, 1) := by decide +kernel
theorem dX5_take_12 : decode cX5_take 12 = .ok (.getfield 38, 3) := by decide +kernel
theorem dX5_take_15 : decode cX5_take 15 = .ok (.invokevirtual 126, 3) := by decide +kernel
theorem dX5_take_18 : decode cX5_take 18 = .ok (.istore_n 1, 1) := by decide +kernel
theorem dX5_take_19 : decode cX5_take 19 = .ok (.iload_n 1, 1) := by decide +kernel
theorem dX5_take_20 : decode cX5_take 20 = .ok (.aload_n 0, 1) := by decide +kernel
theorem dX5_take_21 : decode cX5_take 21 = .ok (.getfield 107, 3) := by decide +kernel
theorem dX5_take_24 : decode cX5_take 24 = .ok (.if_icmp .ge 4, 3) := by decide +kernel
theorem dX5_take_27 : decode cX5_take 27 = .ok (.return_, 1) := by decide +kernel
theorem dX5_take_28 : decode cX5_take 28 = .ok (.iload_n 1, 1) := by decide +kernel
theorem dX5_take_29 : decode cX5_take 29 = .ok (.aload_n 0, 1) := by decide +kernel
theorem dX5_take_30 : decode cX5_take 30 = .ok (.getfield 107, 3) := by decide +kernel
theorem dX5_take_33 : decode cX5_take 33 = .ok (.if_icmp .le 7, 3) := by decide +kernel
theorem dX5_take_36 : decode cX5_take 36 = .ok (.iconst 1, 1) := by decide +kernel
theorem dX5_take_37 : decode cX5_take 37 = .ok (.goto 4, 3) := by decide +kernel
theorem dX5_take_40 : decode cX5_take 40 = .ok (.iconst 0, 1) := by decide +kernel
theorem dX5_take_41 : decode cX5_take 41 = .ok (.istore_n 2, 1) := by decide +kernel
theorem dX5_take_42 : decode cX5_take 42 = .ok (.aload_n 0, 1) := by decide +kernel
theorem dX5_take_43 : decode cX5_take 43 = .ok (.iload_n 1, 1) := by decide +kernel
theorem dX5_take_44 : decode cX5_take 44 = .ok (.putfield 107, 3) := by decide +kernel
theorem dX5_take_47 : decode cX5_take 47 = .ok (.aload_n 0, 1) := by decide +kernel
theorem dX5_take_48 : decode cX5_take 48 = .ok (.iload_n 2, 1) := by decide +kernel
theorem dX5_take_49 : decode cX5_take 49 = .ok (.ifCond .eq 7, 3) := by decide +kernel
theorem dX5_take_52 : decode cX5_take 52 = .ok (.iconst 1, 1) := by decide +kernel
theorem dX5_take_53 : decode cX5_take 53 = .ok (.goto 9, 3) := by decide +kernel
theorem dX5_take_56 : decode cX5_take 56 = .ok (.aload_n 0, 1) := by decide +kernel
theorem dX5_take_57 : decode cX5_take 57 = .ok (.getfield 110, 3) := by decide +kernel
theorem dX5_take_60 : decode cX5_take 60 = .ok (.iconst 1, 1) := by decide +kernel
theorem dX5_take_61 : decode cX5_take 61 = .ok (.iadd, 1) := by decide +kernel
theorem dX5_take_62 : decode cX5_take 62 = .ok (.putfield 110, 3) := by decide +kernel
theorem dX5_take_65 : decode cX5_take 65 = .ok (.iconst 0, 1) := by decide +kernel
theorem dX5_take_66 : decode cX5_take 66 = .ok (.istore_n 3, 1) := by decide +kernel
theorem dX5_take_67 : decode cX5_take 67 = .ok (.iload_n 3, 1) := by decide +kernel
theorem dX5_take_68 : decode cX5_take 68 = .ok (.aload_n 0, 1) := by decide +kernel
theorem dX5_take_69 : decode cX5_take 69 = .ok (.getfield 66, 3) := by decide +kernel
theorem dX5_take_72 : decode cX5_take 72 = .ok (.if_icmp .ge 73, 3) := by decide +kernel
theorem dX5_take_75 : decode cX5_take 75 = .ok (.aload_n 0, 1) := by decide +kernel
theorem dX5_take_76 : decode cX5_take 76 = .ok (.getfield 41, 3) := by decide +kernel
theorem dX5_take_79 : decode cX5_take 79 = .ok (.iload_n 3, 1) := by decide +kernel
theorem dX5_take_80 : decode cX5_take 80 = .ok (.iload_n 2, 1) := by decide +kernel
theorem dX5_take_81 : decode cX5_take 81 = .ok (.ifCond .eq 12, 3) := by decide +kernel
theorem dX5_take_84 : decode cX5_take 84 = .ok (.aload_n 0, 1) := by decide +kernel
theorem dX5_take_85 : decode cX5_take 85 = .ok (.getfield 38, 3) := by decide +kernel
theorem dX5_take_88 : decode cX5_take 88 = .ok (.iload_n 3, 1) := by decide +kernel
theorem dX5_take_89 : decode cX5_take 89 = .ok (.iaload, 1) := by decide +kernel
theorem dX5_take_90 : decode cX5_take 90 = .ok (.goto 9, 3) := by decide +kernel
theorem dX5_take_93 : decode cX5_take 93 = .ok (.aload_n 0, 1) := by decide +kernel
theorem dX5_take_94 : decode cX5_take 94 = .ok (.getfield 41, 3) := by decide +kernel
theorem dX5_take_97 : decode cX5_take 97 = .ok (.iload_n 3, 1) := by decide +kernel
theorem dX5_take_98 : decode cX5_take 98 = .ok (.iaload, 1) := by decide +kernel
theorem dX5_take_99 : decode cX5_take 99 = .ok (.iastore, 1) := by decide +kernel
theorem dX5_take_100 : decode cX5_take 100 = .ok (.aload_n 0, 1) := by decide +kernel
theorem dX5_take_101 : decode cX5_take 101 = .ok (.getfield 44, 3) := by decide +kernel
theorem dX5_take_104 : decode cX5_take 104 = .ok (.iload_n 3, 1) := by decide +kernel
theorem dX5_take_105 : decode cX5_take 105 = .ok (.iload_n 2, 1) := by decide +kernel
theorem dX5_take_106 : decode cX5_take 106 = .ok (.ifCond .ne 27, 3) := by decide +kernel
theorem dX5_take_109 : decode cX5_take 109 = .ok (.aload_n 0, 1) := by decide +kernel
theorem dX5_take_110 : decode cX5_take 110 = .ok (.getfield 44, 3) := by decide +kernel
theorem dX5_take_113 : decode cX5_take 113 = .ok (.iload_n 3, 1) := by decide +kernel
theorem dX5_take_114 : decode cX5_take 114 = .ok (.baload, 1) := by decide +kernel
theorem dX5_take_115 : decode cX5_take 115 = .ok (.ifCond .eq 22, 3) := by decide +kernel
theorem dX5_take_118 : decode cX5_take 118 = .ok (.aload_n 0, 1) := by decide +kernel
theorem dX5_take_119 : decode cX5_take 119 = .ok (.getfield 38, 3) := by decide +kernel
theorem dX5_take_122 : decode cX5_take 122 = .ok (.iload_n 3, 1) := by decide +kernel
theorem dX5_take_123 : decode cX5_take 123 = .ok (.iaload, 1) := by decide +kernel
theorem dX5_take_124 : decode cX5_take 124 = .ok (.aload_n 0, 1) := by decide +kernel
theorem dX5_take_125 : decode cX5_take 125 = .ok (.getfield 41, 3) := by decide +kernel
theorem dX5_take_128 : decode cX5_take 128 = .ok (.iload_n 3, 1) := by decide +kernel
theorem dX5_take_129 : decode cX5_take 129 = .ok (.iaload, 1) := by decide +kernel
theorem dX5_take_130 : decode cX5_take 130 = .ok (.if_icmp .ne 7, 3) := by decide +kernel
theorem dX5_take_133 : decode cX5_take 133 = .ok (.iconst 1, 1) := by decide +kernel
theorem dX5_take_134 : decode cX5_take 134 = .ok (.goto 4, 3) := by decide +kernel
theorem dX5_take_137 : decode cX5_take 137 = .ok (.iconst 0, 1) := by decide +kernel
theorem dX5_take_138 : decode cX5_take 138 = .ok (.bastore, 1) := by decide +kernel
theorem dX5_take_139 : decode cX5_take 139 = .ok (.iinc 3 1, 3) := by decide +kernel
theorem dX5_take_142 : decode cX5_take 142 = .ok (.goto (-75), 3) := by decide +kernel
theorem dX5_take_145 : decode cX5_take 145 = .ok (.return_, 1) := by decide +kernel
theorem dX5_value_0 : decode cX5_value 0 = .ok (.aload_n 0, 1) := by decide +kernel
theorem dX5_value_1 : decode cX5_value 1 = .ok (.ldc 106, 2) := by decide +kernel
theorem dX5_value_3 : decode cX5_value 3 = .ok (.iconst 0, 1) := by decide +kernel
theorem dX5_value_4 : decode cX5_value 4 = .ok (.invokevirtual 130, 3) := by decide +kernel
theorem dX5_value_7 : decode cX5_value 7 = .ok (.aload_n 0, 1) := by decide +kernel
theorem dX5_value_8 : decode cX5_value 8 = .ok (.getfield 107, 3) := by decide +kernel
theorem dX5_value_11 : decode cX5_value 11 = .ok (.ireturn, 1) := by decide +kernel
theorem dX5_counted_0 : decode cX5_counted 0 = .ok (.aload_n 0, 1) := by decide +kernel
theorem dX5_counted_1 : decode cX5_counted 1 = .ok (.ldc 106, 2) := by decide +kernel
theorem dX5_counted_3 : decode cX5_counted 3 = .ok (.iconst 0, 1) := by decide +kernel
theorem dX5_counted_4 : decode cX5_counted 4 = .ok (.invokevirtual 130, 3) := by decide +kernel
theorem dX5_counted_7 : decode cX5_counted 7 = .ok (.iload_n 1, 1) := by decide +kernel
theorem dX5_counted_8 : decode cX5_counted 8 = .ok (.ifCond .ne 10, 3) := by decide +kernel
theorem dX5_counted_11 : decode cX5_counted 11 = .ok (.aload_n 0, 1) := by decide +kernel
theorem dX5_counted_12 : decode cX5_counted 12 = .ok (.getfield 110, 3) := by decide +kernel
theorem dX5_counted_15 : decode cX5_counted 15 = .ok (.goto 29, 3) := by decide +kernel
theorem dX5_counted_18 : decode cX5_counted 18 = .ok (.iload_n 1, 1) := by decide +kernel
theorem dX5_counted_19 : decode cX5_counted 19 = .ok (.iconst 1, 1) := by decide +kernel
theorem dX5_counted_20 : decode cX5_counted 20 = .ok (.if_icmp .ne 10, 3) := by decide +kernel
theorem dX5_counted_23 : decode cX5_counted 23 = .ok (.aload_n 0, 1) := by decide +kernel
theorem dX5_counted_24 : decode cX5_counted 24 = .ok (.getfield 113, 3) := by decide +kernel
theorem dX5_counted_27 : decode cX5_counted 27 = .ok (.goto 17, 3) := by decide +kernel
theorem dX5_counted_30 : decode cX5_counted 30 = .ok (.iload_n 1, 1) := by decide +kernel
theorem dX5_counted_31 : decode cX5_counted 31 = .ok (.iconst 2, 1) := by decide +kernel
theorem dX5_counted_32 : decode cX5_counted 32 = .ok (.if_icmp .ne 10, 3) := by decide +kernel
theorem dX5_counted_35 : decode cX5_counted 35 = .ok (.aload_n 0, 1) := by decide +kernel
theorem dX5_counted_36 : decode cX5_counted 36 = .ok (.getfield 116, 3) := by decide +kernel
theorem dX5_counted_39 : decode cX5_counted 39 = .ok (.goto 5, 3) := by decide +kernel
theorem dX5_counted_42 : decode cX5_counted 42 = .ok (.ldc 85, 2) := by decide +kernel
theorem dX5_counted_44 : decode cX5_counted 44 = .ok (.ireturn, 1) := by decide +kernel
theorem dX5_first_0 : decode cX5_first 0 = .ok (.aload_n 0, 1) := by decide +kernel
theorem dX5_first_1 : decode cX5_first 1 = .ok (.iload_n 1, 1) := by decide +kernel
theorem dX5_first_2 : decode cX5_first 2 = .ok (.invokevirtual 93, 3) := by decide +kernel
theorem dX5_first_5 : decode cX5_first 5 = .ok (.ifCond .ne 6, 3) := by decide +kernel
theorem dX5_first_8 : decode cX5_first 8 = .ok (.ldc 85, 2) := by decide +kernel
theorem dX5_first_10 : decode cX5_first 10 = .ok (.ireturn, 1) := by decide +kernel
theorem dX5_first_11 : decode cX5_first 11 = .ok (.aload_n 0, 1) := by decide +kernel
theorem dX5_first_12 : decode cX5_first 12 = .ok (.ldc 106, 2) := by decide +kernel
theorem dX5_first_14 : decode cX5_first 14 = .ok (.iconst 0, 1) := by decide +kernel
theorem dX5_first_15 : decode cX5_first 15 = .ok (.invokevirtual 130, 3) := by decide +kernel
theorem dX5_first_18 : decode cX5_first 18 = .ok (.aload_n 0, 1) := by decide +kernel
theorem dX5_first_19 : decode cX5_first 19 = .ok (.getfield 41, 3) := by decide +kernel
theorem dX5_first_22 : decode cX5_first 22 = .ok (.iload_n 1, 1) := by decide +kernel
theorem dX5_first_23 : decode cX5_first 23 = .ok (.iaload, 1) := by decide +kernel
theorem dX5_first_24 : decode cX5_first 24 = .ok (.ireturn, 1) := by decide +kernel
theorem dX5_fast_0 : decode cX5_fast 0 = .ok (.aload_n 0, 1) := by decide +kernel
theorem dX5_fast_1 : decode cX5_fast 1 = .ok (.iload_n 1, 1) := by decide +kernel
theorem dX5_fast_2 : decode cX5_fast 2 = .ok (.invokevirtual 93, 3) := by decide +kernel
theorem dX5_fast_5 : decode cX5_fast 5 = .ok (.ifCond .ne 6, 3) := by decide +kernel
theorem dX5_fast_8 : decode cX5_fast 8 = .ok (.ldc 85, 2) := by decide +kernel
theorem dX5_fast_10 : decode cX5_fast 10 = .ok (.ireturn, 1) := by decide +kernel
theorem dX5_fast_11 : decode cX5_fast 11 = .ok (.aload_n 0, 1) := by decide +kernel
theorem dX5_fast_12 : decode cX5_fast 12 = .ok (.ldc 106, 2) := by decide +kernel
theorem dX5_fast_14 : decode cX5_fast 14 = .ok (.iconst 0, 1) := by decide +kernel
theorem dX5_fast_15 : decode cX5_fast 15 = .ok (.invokevirtual 130, 3) := by decide +kernel
theorem dX5_fast_18 : decode cX5_fast 18 = .ok (.aload_n 0, 1) := by decide +kernel
theorem dX5_fast_19 : decode cX5_fast 19 = .ok (.getfield 44, 3) := by decide +kernel
theorem dX5_fast_22 : decode cX5_fast 22 = .ok (.iload_n 1, 1) := by decide +kernel
theorem dX5_fast_23 : decode cX5_fast 23 = .ok (.baload, 1) := by decide +kernel
theorem dX5_fast_24 : decode cX5_fast 24 = .ok (.ifCond .eq 7, 3) := by decide +kernel
theorem dX5_fast_27 : decode cX5_fast 27 = .ok (.iconst 1, 1) := by decide +kernel
theorem dX5_fast_28 : decode cX5_fast 28 = .ok (.goto 4, 3) := by decide +kernel
theorem dX5_fast_31 : decode cX5_fast 31 = .ok (.iconst 0, 1) := by decide +kernel
theorem dX5_fast_32 : decode cX5_fast 32 = .ok (.ireturn, 1) := by decide +kernel
theorem dX5_price_0 : decode cX5_price 0 = .ok (.aload_n 0, 1) := by decide +kernel
theorem dX5_price_1 : decode cX5_price 1 = .ok (.iload_n 1, 1) := by decide +kernel
theorem dX5_price_2 : decode cX5_price 2 = .ok (.invokevirtual 97, 3) := by decide +kernel
theorem dX5_price_5 : decode cX5_price 5 = .ok (.ifCond .eq 25, 3) := by decide +kernel
theorem dX5_price_8 : decode cX5_price 8 = .ok (.aload_n 0, 1) := by decide +kernel
theorem dX5_price_9 : decode cX5_price 9 = .ok (.getfield 16, 3) := by decide +kernel
theorem dX5_price_12 : decode cX5_price 12 = .ok (.iload_n 1, 1) := by decide +kernel
theorem dX5_price_13 : decode cX5_price 13 = .ok (.iaload, 1) := by decide +kernel
theorem dX5_price_14 : decode cX5_price 14 = .ok (.aload_n 0, 1) := by decide +kernel
theorem dX5_price_15 : decode cX5_price 15 = .ok (.getfield 25, 3) := by decide +kernel
theorem dX5_price_18 : decode cX5_price 18 = .ok (.iload_n 1, 1) := by decide +kernel
theorem dX5_price_19 : decode cX5_price 19 = .ok (.iaload, 1) := by decide +kernel
theorem dX5_price_20 : decode cX5_price 20 = .ok (.i2l, 1) := by decide +kernel
theorem dX5_price_21 : decode cX5_price 21 = .ok (.iload_n 2, 1) := by decide +kernel
theorem dX5_price_22 : decode cX5_price 22 = .ok (.i2l, 1) := by decide +kernel
theorem dX5_price_23 : decode cX5_price 23 = .ok (.ladd, 1) := by decide +kernel
theorem dX5_price_24 : decode cX5_price 24 = .ok (.invokestatic 89, 3) := by decide +kernel
theorem dX5_price_27 : decode cX5_price 27 = .ok (.ifCond .ne 6, 3) := by decide +kernel
theorem dX5_price_30 : decode cX5_price 30 = .ok (.ldc 85, 2) := by decide +kernel
theorem dX5_price_32 : decode cX5_price 32 = .ok (.ireturn, 1) := by decide +kernel
theorem dX5_price_33 : decode cX5_price 33 = .ok (.aload_n 0, 1) := by decide +kernel
theorem dX5_price_34 : decode cX5_price 34 = .ok (.invokevirtual 134, 3) := by decide +kernel
theorem dX5_price_37 : decode cX5_price 37 = .ok (.istore_n 3, 1) := by decide +kernel
theorem dX5_price_38 : decode cX5_price 38 = .ok (.aload_n 0, 1) := by decide +kernel
theorem dX5_price_39 : decode cX5_price 39 = .ok (.getfield 25, 3) := by decide +kernel
theorem dX5_price_42 : decode cX5_price 42 = .ok (.iload_n 1, 1) := by decide +kernel
theorem dX5_price_43 : decode cX5_price 43 = .ok (.dup2, 1) := by decide +kernel
theorem dX5_price_44 : decode cX5_price 44 = .ok (.iaload, 1) := by decide +kernel
theorem dX5_price_45 : decode cX5_price 45 = .ok (.iload_n 2, 1) := by decide +kernel
theorem dX5_price_46 : decode cX5_price 46 = .ok (.iadd, 1) := by decide +kernel
theorem dX5_price_47 : decode cX5_price 47 = .ok (.iastore, 1) := by decide +kernel
theorem dX5_price_48 : decode cX5_price 48 = .ok (.aload_n 0, 1) := by decide +kernel
theorem dX5_price_49 : decode cX5_price 49 = .ok (.invokevirtual 134, 3) := by decide +kernel
theorem dX5_price_52 : decode cX5_price 52 = .ok (.istore 4, 2) := by decide +kernel
theorem dX5_price_54 : decode cX5_price 54 = .ok (.aload_n 0, 1) := by decide +kernel
theorem dX5_price_55 : decode cX5_price 55 = .ok (.getfield 25, 3) := by decide +kernel
theorem dX5_price_58 : decode cX5_price 58 = .ok (.iload_n 1, 1) := by decide +kernel
theorem dX5_price_59 : decode cX5_price 59 = .ok (.dup2, 1) := by decide +kernel
theorem dX5_price_60 : decode cX5_price 60 = .ok (.iaload, 1) := by decide +kernel
theorem dX5_price_61 : decode cX5_price 61 = .ok (.iload_n 2, 1) := by decide +kernel
theorem dX5_price_62 : decode cX5_price 62 = .ok (.isub, 1) := by decide +kernel
theorem dX5_price_63 : decode cX5_price 63 = .ok (.iastore, 1) := by decide +kernel
theorem dX5_price_64 : decode cX5_price 64 = .ok (.iload 4, 2) := by decide +kernel
theorem dX5_price_66 : decode cX5_price 66 = .ok (.iload_n 3, 1) := by decide +kernel
theorem dX5_price_67 : decode cX5_price 67 = .ok (.isub, 1) := by decide +kernel
theorem dX5_price_68 : decode cX5_price 68 = .ok (.ireturn, 1) := by decide +kernel
theorem dX5_weight_0 : decode cX5_weight 0 = .ok (.aload_n 0, 1) := by decide +kernel
theorem dX5_weight_1 : decode cX5_weight 1 = .ok (.iload_n 1, 1) := by decide +kernel
theorem dX5_weight_2 : decode cX5_weight 2 = .ok (.invokevirtual 97, 3) := by decide +kernel
theorem dX5_weight_5 : decode cX5_weight 5 = .ok (.ifCond .ne 6, 3) := by decide +kernel
theorem dX5_weight_8 : decode cX5_weight 8 = .ok (.ldc 85, 2) := by decide +kernel
theorem dX5_weight_10 : decode cX5_weight 10 = .ok (.ireturn, 1) := by decide +kernel
theorem dX5_weight_11 : decode cX5_weight 11 = .ok (.aload_n 0, 1) := by decide +kernel
theorem dX5_weight_12 : decode cX5_weight 12 = .ok (.invokevirtual 134, 3) := by decide +kernel
theorem dX5_weight_15 : decode cX5_weight 15 = .ok (.istore_n 2, 1) := by decide +kernel
theorem dX5_weight_16 : decode cX5_weight 16 = .ok (.aload_n 0, 1) := by decide +kernel
theorem dX5_weight_17 : decode cX5_weight 17 = .ok (.getfield 28, 3) := by decide +kernel
theorem dX5_weight_20 : decode cX5_weight 20 = .ok (.iload_n 1, 1) := by decide +kernel
theorem dX5_weight_21 : decode cX5_weight 21 = .ok (.baload, 1) := by decide +kernel
theorem dX5_weight_22 : decode cX5_weight 22 = .ok (.istore_n 3, 1) := by decide +kernel
theorem dX5_weight_23 : decode cX5_weight 23 = .ok (.aload_n 0, 1) := by decide +kernel
theorem dX5_weight_24 : decode cX5_weight 24 = .ok (.getfield 28, 3) := by decide +kernel
theorem dX5_weight_27 : decode cX5_weight 27 = .ok (.iload_n 1, 1) := by decide +kernel
theorem dX5_weight_28 : decode cX5_weight 28 = .ok (.iconst 0, 1) := by decide +kernel
theorem dX5_weight_29 : decode cX5_weight 29 = .ok (.bastore, 1) := by decide +kernel
theorem dX5_weight_30 : decode cX5_weight 30 = .ok (.aload_n 0, 1) := by decide +kernel
theorem dX5_weight_31 : decode cX5_weight 31 = .ok (.invokevirtual 134, 3) := by decide +kernel
theorem dX5_weight_34 : decode cX5_weight 34 = .ok (.istore 4, 2) := by decide +kernel
theorem dX5_weight_36 : decode cX5_weight 36 = .ok (.aload_n 0, 1) := by decide +kernel
theorem dX5_weight_37 : decode cX5_weight 37 = .ok (.getfield 28, 3) := by decide +kernel
theorem dX5_weight_40 : decode cX5_weight 40 = .ok (.iload_n 1, 1) := by decide +kernel
theorem dX5_weight_41 : decode cX5_weight 41 = .ok (.iload_n 3, 1) := by decide +kernel
theorem dX5_weight_42 : decode cX5_weight 42 = .ok (.bastore, 1) := by decide +kernel
theorem dX5_weight_43 : decode cX5_weight 43 = .ok (.iload 4, 2) := by decide +kernel
theorem dX5_weight_45 : decode cX5_weight 45 = .ok (.iload_n 2, 1) := by decide +kernel
theorem dX5_weight_46 : decode cX5_weight 46 = .ok (.isub, 1) := by decide +kernel
theorem dX5_weight_47 : decode cX5_weight 47 = .ok (.ireturn, 1) := by decide +kernel
theorem dX5_rank_0 : decode cX5_rank 0 = .ok (.aload_n 0, 1) := by decide +kernel
theorem dX5_rank_1 : decode cX5_rank 1 = .ok (.iload_n 1, 1) := by decide +kernel
theorem dX5_rank_2 : decode cX5_rank 2 = .ok (.invokevirtual 97, 3) := by decide +kernel
theorem dX5_rank_5 : decode cX5_rank 5 = .ok (.ifCond .ne 6, 3) := by decide +kernel
theorem dX5_rank_8 : decode cX5_rank 8 = .ok (.ldc 85, 2) := by decide +kernel
theorem dX5_rank_10 : decode cX5_rank 10 = .ok (.ireturn, 1) := by decide +kernel
theorem dX5_rank_11 : decode cX5_rank 11 = .ok (.iconst 0, 1) := by decide +kernel
theorem dX5_rank_12 : decode cX5_rank 12 = .ok (.istore_n 2, 1) := by decide +kernel
theorem dX5_rank_13 : decode cX5_rank 13 = .ok (.iload_n 2, 1) := by decide +kernel
theorem dX5_rank_14 : decode cX5_rank 14 = .ok (.aload_n 0, 1) := by decide +kernel
theorem dX5_rank_15 : decode cX5_rank 15 = .ok (.getfield 74, 3) := by decide +kernel
theorem dX5_rank_18 : decode cX5_rank 18 = .ok (.if_icmp .ge 20, 3) := by decide +kernel
theorem dX5_rank_21 : decode cX5_rank 21 = .ok (.aload_n 0, 1) := by decide +kernel
theorem dX5_rank_22 : decode cX5_rank 22 = .ok (.getfield 47, 3) := by decide +kernel
theorem dX5_rank_25 : decode cX5_rank 25 = .ok (.iload_n 2, 1) := by decide +kernel
theorem dX5_rank_26 : decode cX5_rank 26 = .ok (.aload_n 0, 1) := by decide +kernel
theorem dX5_rank_27 : decode cX5_rank 27 = .ok (.iload_n 2, 1) := by decide +kernel
theorem dX5_rank_28 : decode cX5_rank 28 = .ok (.invokevirtual 138, 3) := by decide +kernel
theorem dX5_rank_31 : decode cX5_rank 31 = .ok (.iastore, 1) := by decide +kernel
theorem dX5_rank_32 : decode cX5_rank 32 = .ok (.iinc 2 1, 3) := by decide +kernel
theorem dX5_rank_35 : decode cX5_rank 35 = .ok (.goto (-22), 3) := by decide +kernel
theorem dX5_rank_38 : decode cX5_rank 38 = .ok (.iconst 0, 1) := by decide +kernel
theorem dX5_rank_39 : decode cX5_rank 39 = .ok (.istore_n 2, 1) := by decide +kernel
theorem dX5_rank_40 : decode cX5_rank 40 = .ok (.iload_n 2, 1) := by decide +kernel
theorem dX5_rank_41 : decode cX5_rank 41 = .ok (.aload_n 0, 1) := by decide +kernel
theorem dX5_rank_42 : decode cX5_rank 42 = .ok (.getfield 74, 3) := by decide +kernel
theorem dX5_rank_45 : decode cX5_rank 45 = .ok (.if_icmp .ge 82, 3) := by decide +kernel
theorem dX5_rank_48 : decode cX5_rank 48 = .ok (.iconst 0, 1) := by decide +kernel
theorem dX5_rank_49 : decode cX5_rank 49 = .ok (.istore_n 3, 1) := by decide +kernel
theorem dX5_rank_50 : decode cX5_rank 50 = .ok (.iconst 0, 1) := by decide +kernel
theorem dX5_rank_51 : decode cX5_rank 51 = .ok (.istore 4, 2) := by decide +kernel
theorem dX5_rank_53 : decode cX5_rank 53 = .ok (.iload 4, 2) := by decide +kernel
theorem dX5_rank_55 : decode cX5_rank 55 = .ok (.aload_n 0, 1) := by decide +kernel
theorem dX5_rank_56 : decode cX5_rank 56 = .ok (.getfield 74, 3) := by decide +kernel
theorem dX5_rank_59 : decode cX5_rank 59 = .ok (.if_icmp .ge 55, 3) := by decide +kernel
theorem dX5_rank_62 : decode cX5_rank 62 = .ok (.iload_n 3, 1) := by decide +kernel
theorem dX5_rank_63 : decode cX5_rank 63 = .ok (.aload_n 0, 1) := by decide +kernel
theorem dX5_rank_64 : decode cX5_rank 64 = .ok (.getfield 47, 3) := by decide +kernel
theorem dX5_rank_67 : decode cX5_rank 67 = .ok (.iload 4, 2) := by decide +kernel
theorem dX5_rank_69 : decode cX5_rank 69 = .ok (.iaload, 1) := by decide +kernel
theorem dX5_rank_70 : decode cX5_rank 70 = .ok (.aload_n 0, 1) := by decide +kernel
theorem dX5_rank_71 : decode cX5_rank 71 = .ok (.getfield 47, 3) := by decide +kernel
theorem dX5_rank_74 : decode cX5_rank 74 = .ok (.iload_n 2, 1) := by decide +kernel
theorem dX5_rank_75 : decode cX5_rank 75 = .ok (.iaload, 1) := by decide +kernel
theorem dX5_rank_76 : decode cX5_rank 76 = .ok (.if_icmp .gt 25, 3) := by decide +kernel
theorem dX5_rank_79 : decode cX5_rank 79 = .ok (.aload_n 0, 1) := by decide +kernel
theorem dX5_rank_80 : decode cX5_rank 80 = .ok (.getfield 47, 3) := by decide +kernel
theorem dX5_rank_83 : decode cX5_rank 83 = .ok (.iload 4, 2) := by decide +kernel
theorem dX5_rank_85 : decode cX5_rank 85 = .ok (.iaload, 1) := by decide +kernel
theorem dX5_rank_86 : decode cX5_rank 86 = .ok (.aload_n 0, 1) := by decide +kernel
theorem dX5_rank_87 : decode cX5_rank 87 = .ok (.getfield 47, 3) := by decide +kernel
theorem dX5_rank_90 : decode cX5_rank 90 = .ok (.iload_n 2, 1) := by decide +kernel
theorem dX5_rank_91 : decode cX5_rank 91 = .ok (.iaload, 1) := by decide +kernel
theorem dX5_rank_92 : decode cX5_rank 92 = .ok (.if_icmp .ne 13, 3) := by decide +kernel
theorem dX5_rank_95 : decode cX5_rank 95 = .ok (.iload 4, 2) := by decide +kernel
theorem dX5_rank_97 : decode cX5_rank 97 = .ok (.iload_n 2, 1) := by decide +kernel
theorem dX5_rank_98 : decode cX5_rank 98 = .ok (.if_icmp .ge 7, 3) := by decide +kernel
theorem dX5_rank_101 : decode cX5_rank 101 = .ok (.iconst 1, 1) := by decide +kernel
theorem dX5_rank_102 : decode cX5_rank 102 = .ok (.goto 4, 3) := by decide +kernel
theorem dX5_rank_105 : decode cX5_rank 105 = .ok (.iconst 0, 1) := by decide +kernel
theorem dX5_rank_106 : decode cX5_rank 106 = .ok (.iadd, 1) := by decide +kernel
theorem dX5_rank_107 : decode cX5_rank 107 = .ok (.istore_n 3, 1) := by decide +kernel
theorem dX5_rank_108 : decode cX5_rank 108 = .ok (.iinc 4 1, 3) := by decide +kernel
theorem dX5_rank_111 : decode cX5_rank 111 = .ok (.goto (-58), 3) := by decide +kernel
theorem dX5_rank_114 : decode cX5_rank 114 = .ok (.iload_n 3, 1) := by decide +kernel
theorem dX5_rank_115 : decode cX5_rank 115 = .ok (.iload_n 1, 1) := by decide +kernel
theorem dX5_rank_116 : decode cX5_rank 116 = .ok (.if_icmp .ne 5, 3) := by decide +kernel
theorem dX5_rank_119 : decode cX5_rank 119 = .ok (.iload_n 2, 1) := by decide +kernel
theorem dX5_rank_120 : decode cX5_rank 120 = .ok (.ireturn, 1) := by decide +kernel
theorem dX5_rank_121 : decode cX5_rank 121 = .ok (.iinc 2 1, 3) := by decide +kernel
theorem dX5_rank_124 : decode cX5_rank 124 = .ok (.goto (-84), 3) := by decide +kernel
theorem dX5_rank_127 : decode cX5_rank 127 = .ok (.ldc 85, 2) := by decide +kernel
theorem dX5_rank_129 : decode cX5_rank 129 = .ok (.ireturn, 1) := by decide +kernel
theorem dX5_more_0 : decode cX5_more 0 = .ok (.aload_n 0, 1) := by decide +kernel
theorem dX5_more_1 : decode cX5_more 1 = .ok (.iload_n 1, 1) := by decide +kernel
theorem dX5_more_2 : decode cX5_more 2 = .ok (.invokevirtual 93, 3) := by decide +kernel
theorem dX5_more_5 : decode cX5_more 5 = .ok (.ifCond .eq 14, 3) := by decide +kernel
theorem dX5_more_8 : decode cX5_more 8 = .ok (.aload_n 0, 1) := by decide +kernel
theorem dX5_more_9 : decode cX5_more 9 = .ok (.getfield 13, 3) := by decide +kernel
theorem dX5_more_12 : decode cX5_more 12 = .ok (.iload_n 1, 1) := by decide +kernel
theorem dX5_more_13 : decode cX5_more 13 = .ok (.iaload, 1) := by decide +kernel
theorem dX5_more_14 : decode cX5_more 14 = .ok (.bipush 9, 2) := by decide +kernel
theorem dX5_more_16 : decode cX5_more 16 = .ok (.if_icmp .ne 6, 3) := by decide +kernel
theorem dX5_more_19 : decode cX5_more 19 = .ok (.ldc 85, 2) := by decide +kernel
theorem dX5_more_21 : decode cX5_more 21 = .ok (.ireturn, 1) := by decide +kernel
theorem dX5_more_22 : decode cX5_more 22 = .ok (.aload_n 0, 1) := by decide +kernel
theorem dX5_more_23 : decode cX5_more 23 = .ok (.invokevirtual 134, 3) := by decide +kernel
theorem dX5_more_26 : decode cX5_more 26 = .ok (.istore_n 2, 1) := by decide +kernel
theorem dX5_more_27 : decode cX5_more 27 = .ok (.aload_n 0, 1) := by decide +kernel
theorem dX5_more_28 : decode cX5_more 28 = .ok (.getfield 13, 3) := by decide +kernel
theorem dX5_more_31 : decode cX5_more 31 = .ok (.iload_n 1, 1) := by decide +kernel
theorem dX5_more_32 : decode cX5_more 32 = .ok (.dup2, 1) := by decide +kernel
theorem dX5_more_33 : decode cX5_more 33 = .ok (.iaload, 1) := by decide +kernel
theorem dX5_more_34 : decode cX5_more 34 = .ok (.iconst 1, 1) := by decide +kernel
theorem dX5_more_35 : decode cX5_more 35 = .ok (.iadd, 1) := by decide +kernel
theorem dX5_more_36 : decode cX5_more 36 = .ok (.iastore, 1) := by decide +kernel
theorem dX5_more_37 : decode cX5_more 37 = .ok (.aload_n 0, 1) := by decide +kernel
theorem dX5_more_38 : decode cX5_more 38 = .ok (.invokevirtual 134, 3) := by decide +kernel
theorem dX5_more_41 : decode cX5_more 41 = .ok (.istore_n 3, 1) := by decide +kernel
theorem dX5_more_42 : decode cX5_more 42 = .ok (.aload_n 0, 1) := by decide +kernel
theorem dX5_more_43 : decode cX5_more 43 = .ok (.getfield 13, 3) := by decide +kernel
theorem dX5_more_46 : decode cX5_more 46 = .ok (.iload_n 1, 1) := by decide +kernel
theorem dX5_more_47 : decode cX5_more 47 = .ok (.dup2, 1) := by decide +kernel
theorem dX5_more_48 : decode cX5_more 48 = .ok (.iaload, 1) := by decide +kernel
theorem dX5_more_49 : decode cX5_more 49 = .ok (.iconst 1, 1) := by decide +kernel
theorem dX5_more_50 : decode cX5_more 50 = .ok (.isub, 1) := by decide +kernel
theorem dX5_more_51 : decode cX5_more 51 = .ok (.iastore, 1) := by decide +kernel
theorem dX5_more_52 : decode cX5_more 52 = .ok (.iload_n 3, 1) := by decide +kernel
theorem dX5_more_53 : decode cX5_more 53 = .ok (.iload_n 2, 1) := by decide +kernel
theorem dX5_more_54 : decode cX5_more 54 = .ok (.isub, 1) := by decide +kernel
theorem dX5_more_55 : decode cX5_more 55 = .ok (.ireturn, 1) := by decide +kernel
theorem dX5_must_0 : decode cX5_must 0 = .ok (.aload_n 0, 1) := by decide +kernel
theorem dX5_must_1 : decode cX5_must 1 = .ok (.iload_n 1, 1) := by decide +kernel
theorem dX5_must_2 : decode cX5_must 2 = .ok (.invokevirtual 93, 3) := by decide +kernel
theorem dX5_must_5 : decode cX5_must 5 = .ok (.ifCond .eq 19, 3) := by decide +kernel
theorem dX5_must_8 : decode cX5_must 8 = .ok (.iload_n 2, 1) := by decide +kernel
theorem dX5_must_9 : decode cX5_must 9 = .ok (.i2l, 1) := by decide +kernel
theorem dX5_must_10 : decode cX5_must 10 = .ok (.lconst 0, 1) := by decide +kernel
theorem dX5_must_11 : decode cX5_must 11 = .ok (.aload_n 0, 1) := by decide +kernel
theorem dX5_must_12 : decode cX5_must 12 = .ok (.getfield 13, 3) := by decide +kernel
theorem dX5_must_15 : decode cX5_must 15 = .ok (.iload_n 1, 1) := by decide +kernel
theorem dX5_must_16 : decode cX5_must 16 = .ok (.iaload, 1) := by decide +kernel
theorem dX5_must_17 : decode cX5_must 17 = .ok (.i2l, 1) := by decide +kernel
theorem dX5_must_18 : decode cX5_must 18 = .ok (.invokestatic 70, 3) := by decide +kernel
theorem dX5_must_21 : decode cX5_must 21 = .ok (.ifCond .ne 6, 3) := by decide +kernel
theorem dX5_must_24 : decode cX5_must 24 = .ok (.ldc 85, 2) := by decide +kernel
theorem dX5_must_26 : decode cX5_must 26 = .ok (.ireturn, 1) := by decide +kernel
theorem dX5_must_27 : decode cX5_must 27 = .ok (.aload_n 0, 1) := by decide +kernel
theorem dX5_must_28 : decode cX5_must 28 = .ok (.iload_n 1, 1) := by decide +kernel
theorem dX5_must_29 : decode cX5_must 29 = .ok (.iload_n 2, 1) := by decide +kernel
theorem dX5_must_30 : decode cX5_must 30 = .ok (.invokevirtual 130, 3) := by decide +kernel
theorem dX5_must_33 : decode cX5_must 33 = .ok (.aload_n 0, 1) := by decide +kernel
theorem dX5_must_34 : decode cX5_must 34 = .ok (.getfield 107, 3) := by decide +kernel
theorem dX5_must_37 : decode cX5_must 37 = .ok (.ireturn, 1) := by decide +kernel
theorem dX5_floor_0 : decode cX5_floor 0 = .ok (.iload_n 0, 1) := by decide +kernel
theorem dX5_floor_1 : decode cX5_floor 1 = .ok (.iload_n 1, 1) := by decide +kernel
theorem dX5_floor_2 : decode cX5_floor 2 = .ok (.irem, 1) := by decide +kernel
theorem dX5_floor_3 : decode cX5_floor 3 = .ok (.ifCond .ge 11, 3) := by decide +kernel
theorem dX5_floor_6 : decode cX5_floor 6 = .ok (.iload_n 0, 1) := by decide +kernel
theorem dX5_floor_7 : decode cX5_floor 7 = .ok (.iload_n 1, 1) := by decide +kernel
theorem dX5_floor_8 : decode cX5_floor 8 = .ok (.idiv, 1) := by decide +kernel
theorem dX5_floor_9 : decode cX5_floor 9 = .ok (.iconst 1, 1) := by decide +kernel
theorem dX5_floor_10 : decode cX5_floor 10 = .ok (.isub, 1) := by decide +kernel
theorem dX5_floor_11 : decode cX5_floor 11 = .ok (.goto 6, 3) := by decide +kernel
theorem dX5_floor_14 : decode cX5_floor 14 = .ok (.iload_n 0, 1) := by decide +kernel
theorem dX5_floor_15 : decode cX5_floor 15 = .ok (.iload_n 1, 1) := by decide +kernel
theorem dX5_floor_16 : decode cX5_floor 16 = .ok (.idiv, 1) := by decide +kernel
theorem dX5_floor_17 : decode cX5_floor 17 = .ok (.ireturn, 1) := by decide +kernel
theorem dX5_span_0 : decode cX5_span 0 = .ok (.aload_n 0, 1) := by decide +kernel
theorem dX5_span_1 : decode cX5_span 1 = .ok (.iload_n 1, 1) := by decide +kernel
theorem dX5_span_2 : decode cX5_span 2 = .ok (.invokevirtual 93, 3) := by decide +kernel
theorem dX5_span_5 : decode cX5_span 5 = .ok (.ifCond .ne 6, 3) := by decide +kernel
theorem dX5_span_8 : decode cX5_span 8 = .ok (.ldc 85, 2) := by decide +kernel
theorem dX5_span_10 : decode cX5_span 10 = .ok (.ireturn, 1) := by decide +kernel
theorem dX5_span_11 : decode cX5_span 11 = .ok (.aload_n 0, 1) := by decide +kernel
theorem dX5_span_12 : decode cX5_span 12 = .ok (.ldc 106, 2) := by decide +kernel
theorem dX5_span_14 : decode cX5_span 14 = .ok (.iconst 0, 1) := by decide +kernel
theorem dX5_span_15 : decode cX5_span 15 = .ok (.invokevirtual 130, 3) := by decide +kernel
theorem dX5_span_18 : decode cX5_span 18 = .ok (.aload_n 0, 1) := by decide +kernel
theorem dX5_span_19 : decode cX5_span 19 = .ok (.getfield 41, 3) := by decide +kernel
theorem dX5_span_22 : decode cX5_span 22 = .ok (.iload_n 1, 1) := by decide +kernel
theorem dX5_span_23 : decode cX5_span 23 = .ok (.iaload, 1) := by decide +kernel
theorem dX5_span_24 : decode cX5_span 24 = .ok (.istore_n 3, 1) := by decide +kernel
theorem dX5_span_25 : decode cX5_span 25 = .ok (.aload_n 0, 1) := by decide +kernel
theorem dX5_span_26 : decode cX5_span 26 = .ok (.getfield 107, 3) := by decide +kernel
theorem dX5_span_29 : decode cX5_span 29 = .ok (.aload_n 0, 1) := by decide +kernel
theorem dX5_span_30 : decode cX5_span 30 = .ok (.getfield 7, 3) := by decide +kernel
theorem dX5_span_33 : decode cX5_span 33 = .ok (.iload_n 1, 1) := by decide +kernel
theorem dX5_span_34 : decode cX5_span 34 = .ok (.iaload, 1) := by decide +kernel
theorem dX5_span_35 : decode cX5_span 35 = .ok (.iload_n 3, 1) := by decide +kernel
theorem dX5_span_36 : decode cX5_span 36 = .ok (.imul, 1) := by decide +kernel
theorem dX5_span_37 : decode cX5_span 37 = .ok (.isub, 1) := by decide +kernel
theorem dX5_span_38 : decode cX5_span 38 = .ok (.istore 4, 2) := by decide +kernel
theorem dX5_span_40 : decode cX5_span 40 = .ok (.ldc 106, 2) := by decide +kernel
theorem dX5_span_42 : decode cX5_span 42 = .ok (.istore 5, 2) := by decide +kernel
theorem dX5_span_44 : decode cX5_span 44 = .ok (.iconst 0, 1) := by decide +kernel
theorem dX5_span_45 : decode cX5_span 45 = .ok (.istore 6, 2) := by decide +kernel
theorem dX5_span_47 : decode cX5_span 47 = .ok (.iload 6, 2) := by decide +kernel
theorem dX5_span_49 : decode cX5_span 49 = .ok (.aload_n 0, 1) := by decide +kernel
theorem dX5_span_50 : decode cX5_span 50 = .ok (.getfield 13, 3) := by decide +kernel
theorem dX5_span_53 : decode cX5_span 53 = .ok (.iload_n 1, 1) := by decide +kernel
theorem dX5_span_54 : decode cX5_span 54 = .ok (.iaload, 1) := by decide +kernel
theorem dX5_span_55 : decode cX5_span 55 = .ok (.if_icmp .gt 136, 3) := by decide +kernel
theorem dX5_span_58 : decode cX5_span 58 = .ok (.aload_n 0, 1) := by decide +kernel
theorem dX5_span_59 : decode cX5_span 59 = .ok (.iload_n 1, 1) := by decide +kernel
theorem dX5_span_60 : decode cX5_span 60 = .ok (.iload 6, 2) := by decide +kernel
theorem dX5_span_62 : decode cX5_span 62 = .ok (.invokevirtual 130, 3) := by decide +kernel
theorem dX5_span_65 : decode cX5_span 65 = .ok (.aload_n 0, 1) := by decide +kernel
theorem dX5_span_66 : decode cX5_span 66 = .ok (.getfield 107, 3) := by decide +kernel
theorem dX5_span_69 : decode cX5_span 69 = .ok (.ldc 106, 2) := by decide +kernel
theorem dX5_span_71 : decode cX5_span 71 = .ok (.if_icmp .eq 114, 3) := by decide +kernel
theorem dX5_span_74 : decode cX5_span 74 = .ok (.iload 6, 2) := by decide +kernel
theorem dX5_span_76 : decode cX5_span 76 = .ok (.iload_n 3, 1) := by decide +kernel
theorem dX5_span_77 : decode cX5_span 77 = .ok (.if_icmp .eq 108, 3) := by decide +kernel
theorem dX5_span_80 : decode cX5_span 80 = .ok (.iload 6, 2) := by decide +kernel
theorem dX5_span_82 : decode cX5_span 82 = .ok (.iload_n 3, 1) := by decide +kernel
theorem dX5_span_83 : decode cX5_span 83 = .ok (.if_icmp .le 7, 3) := by decide +kernel
theorem dX5_span_86 : decode cX5_span 86 = .ok (.iconst 1, 1) := by decide +kernel
theorem dX5_span_87 : decode cX5_span 87 = .ok (.goto 4, 3) := by decide +kernel
theorem dX5_span_90 : decode cX5_span 90 = .ok (.iconst 0, 1) := by decide +kernel
theorem dX5_span_91 : decode cX5_span 91 = .ok (.iload_n 2, 1) := by decide +kernel
theorem dX5_span_92 : decode cX5_span 92 = .ok (.if_icmp .eq 6, 3) := by decide +kernel
theorem dX5_span_95 : decode cX5_span 95 = .ok (.goto 90, 3) := by decide +kernel
theorem dX5_span_98 : decode cX5_span 98 = .ok (.aload_n 0, 1) := by decide +kernel
theorem dX5_span_99 : decode cX5_span 99 = .ok (.getfield 107, 3) := by decide +kernel
theorem dX5_span_102 : decode cX5_span 102 = .ok (.aload_n 0, 1) := by decide +kernel
theorem dX5_span_103 : decode cX5_span 103 = .ok (.getfield 7, 3) := by decide +kernel
theorem dX5_span_106 : decode cX5_span 106 = .ok (.iload_n 1, 1) := by decide +kernel
theorem dX5_span_107 : decode cX5_span 107 = .ok (.iaload, 1) := by decide +kernel
theorem dX5_span_108 : decode cX5_span 108 = .ok (.iload 6, 2) := by decide +kernel
theorem dX5_span_110 : decode cX5_span 110 = .ok (.imul, 1) := by decide +kernel
theorem dX5_span_111 : decode cX5_span 111 = .ok (.isub, 1) := by decide +kernel
theorem dX5_span_112 : decode cX5_span 112 = .ok (.istore 7, 2) := by decide +kernel
theorem dX5_span_114 : decode cX5_span 114 = .ok (.iload_n 2, 1) := by decide +kernel
theorem dX5_span_115 : decode cX5_span 115 = .ok (.ifCond .eq 18, 3) := by decide +kernel
theorem dX5_span_118 : decode cX5_span 118 = .ok (.iload 4, 2) := by decide +kernel
theorem dX5_span_120 : decode cX5_span 120 = .ok (.iload 7, 2) := by decide +kernel
theorem dX5_span_122 : decode cX5_span 122 = .ok (.isub, 1) := by decide +kernel
theorem dX5_span_123 : decode cX5_span 123 = .ok (.iload 6, 2) := by decide +kernel
theorem dX5_span_125 : decode cX5_span 125 = .ok (.iload_n 3, 1) := by decide +kernel
theorem dX5_span_126 : decode cX5_span 126 = .ok (.isub, 1) := by decide +kernel
theorem dX5_span_127 : decode cX5_span 127 = .ok (.invokestatic 142, 3) := by decide +kernel
theorem dX5_span_130 : decode cX5_span 130 = .ok (.goto 16, 3) := by decide +kernel
theorem dX5_span_133 : decode cX5_span 133 = .ok (.iload 4, 2) := by decide +kernel
theorem dX5_span_135 : decode cX5_span 135 = .ok (.iload 7, 2) := by decide +kernel
theorem dX5_span_137 : decode cX5_span 137 = .ok (.isub, 1) := by decide +kernel
theorem dX5_span_138 : decode cX5_span 138 = .ok (.iload_n 3, 1) := by decide +kernel
theorem dX5_span_139 : decode cX5_span 139 = .ok (.iload 6, 2) := by decide +kernel
theorem dX5_span_141 : decode cX5_span 141 = .ok (.isub, 1) := by decide +kernel
theorem dX5_span_142 : decode cX5_span 142 = .ok (.invokestatic 142, 3) := by decide +kernel
theorem dX5_span_145 : decode cX5_span 145 = .ok (.ineg, 1) := by decide +kernel
theorem dX5_span_146 : decode cX5_span 146 = .ok (.istore 8, 2) := by decide +kernel
theorem dX5_span_148 : decode cX5_span 148 = .ok (.iload 5, 2) := by decide +kernel
theorem dX5_span_150 : decode cX5_span 150 = .ok (.ldc 106, 2) := by decide +kernel
theorem dX5_span_152 : decode cX5_span 152 = .ok (.if_icmp .eq 24, 3) := by decide +kernel
theorem dX5_span_155 : decode cX5_span 155 = .ok (.iload_n 2, 1) := by decide +kernel
theorem dX5_span_156 : decode cX5_span 156 = .ok (.ifCond .eq 13, 3) := by decide +kernel
theorem dX5_span_159 : decode cX5_span 159 = .ok (.iload 8, 2) := by decide +kernel
theorem dX5_span_161 : decode cX5_span 161 = .ok (.iload 5, 2) := by decide +kernel
theorem dX5_span_163 : decode cX5_span 163 = .ok (.if_icmp .ge 18, 3) := by decide +kernel
theorem dX5_span_166 : decode cX5_span 166 = .ok (.goto 10, 3) := by decide +kernel
theorem dX5_span_169 : decode cX5_span 169 = .ok (.iload 8, 2) := by decide +kernel
theorem dX5_span_171 : decode cX5_span 171 = .ok (.iload 5, 2) := by decide +kernel
theorem dX5_span_173 : decode cX5_span 173 = .ok (.if_icmp .le 8, 3) := by decide +kernel
theorem dX5_span_176 : decode cX5_span 176 = .ok (.iload 8, 2) := by decide +kernel
theorem dX5_span_178 : decode cX5_span 178 = .ok (.goto 5, 3) := by decide +kernel
theorem dX5_span_181 : decode cX5_span 181 = .ok (.iload 5, 2) := by decide +kernel
theorem dX5_span_183 : decode cX5_span 183 = .ok (.istore 5, 2) := by decide +kernel
theorem dX5_span_185 : decode cX5_span 185 = .ok (.iinc 6 1, 3) := by decide +kernel
theorem dX5_span_188 : decode cX5_span 188 = .ok (.goto (-141), 3) := by decide +kernel
theorem dX5_span_191 : decode cX5_span 191 = .ok (.iload 5, 2) := by decide +kernel
theorem dX5_span_193 : decode cX5_span 193 = .ok (.ireturn, 1) := by decide +kernel
theorem dX5_put_0 : decode cX5_put 0 = .ok (.aload_n 0, 1) := by decide +kernel
theorem dX5_put_1 : decode cX5_put 1 = .ok (.iload_n 1, 1) := by decide +kernel
theorem dX5_put_2 : decode cX5_put 2 = .ok (.invokevirtual 93, 3) := by decide +kernel
theorem dX5_put_5 : decode cX5_put 5 = .ok (.ifCond .eq 15, 3) := by decide +kernel
theorem dX5_put_8 : decode cX5_put 8 = .ok (.iload_n 2, 1) := by decide +kernel
theorem dX5_put_9 : decode cX5_put 9 = .ok (.i2l, 1) := by decide +kernel
theorem dX5_put_10 : decode cX5_put 10 = .ok (.lconst 0, 1) := by decide +kernel
theorem dX5_put_11 : decode cX5_put 11 = .ok (.ldc2_w 79, 3) := by decide +kernel
theorem dX5_put_14 : decode cX5_put 14 = .ok (.invokestatic 70, 3) := by decide +kernel
theorem dX5_put_17 : decode cX5_put 17 = .ok (.ifCond .ne 6, 3) := by decide +kernel
theorem dX5_put_20 : decode cX5_put 20 = .ok (.ldc 85, 2) := by decide +kernel
theorem dX5_put_22 : decode cX5_put 22 = .ok (.ireturn, 1) := by decide +kernel
theorem dX5_put_23 : decode cX5_put 23 = .ok (.aload_n 0, 1) := by decide +kernel
theorem dX5_put_24 : decode cX5_put 24 = .ok (.getfield 35, 3) := by decide +kernel
theorem dX5_put_27 : decode cX5_put 27 = .ok (.iload_n 1, 1) := by decide +kernel
theorem dX5_put_28 : decode cX5_put 28 = .ok (.iaload, 1) := by decide +kernel
theorem dX5_put_29 : decode cX5_put 29 = .ok (.istore_n 3, 1) := by decide +kernel
theorem dX5_put_30 : decode cX5_put 30 = .ok (.aload_n 0, 1) := by decide +kernel
theorem dX5_put_31 : decode cX5_put 31 = .ok (.getfield 35, 3) := by decide +kernel
theorem dX5_put_34 : decode cX5_put 34 = .ok (.iload_n 1, 1) := by decide +kernel
theorem dX5_put_35 : decode cX5_put 35 = .ok (.iload_n 2, 1) := by decide +kernel
theorem dX5_put_36 : decode cX5_put 36 = .ok (.iastore, 1) := by decide +kernel
theorem dX5_put_37 : decode cX5_put 37 = .ok (.iload_n 3, 1) := by decide +kernel
theorem dX5_put_38 : decode cX5_put 38 = .ok (.ireturn, 1) := by decide +kernel
theorem dX5_worth_0 : decode cX5_worth 0 = .ok (.aload_n 0, 1) := by decide +kernel
theorem dX5_worth_1 : decode cX5_worth 1 = .ok (.aload_n 0, 1) := by decide +kernel
theorem dX5_worth_2 : decode cX5_worth 2 = .ok (.getfield 35, 3) := by decide +kernel
theorem dX5_worth_5 : decode cX5_worth 5 = .ok (.invokevirtual 126, 3) := by decide +kernel
theorem dX5_worth_8 : decode cX5_worth 8 = .ok (.ireturn, 1) := by decide +kernel
theorem dX5_broken_0 : decode cX5_broken 0 = .ok (.iconst 0, 1) := by decide +kernel
theorem dX5_broken_1 : decode cX5_broken 1 = .ok (.istore_n 1, 1) := by decide +kernel
theorem dX5_broken_2 : decode cX5_broken 2 = .ok (.iload_n 1, 1) := by decide +kernel
theorem dX5_broken_3 : decode cX5_broken 3 = .ok (.aload_n 0, 1) := by decide +kernel
theorem dX5_broken_4 : decode cX5_broken 4 = .ok (.getfield 66, 3) := by decide +kernel
theorem dX5_broken_7 : decode cX5_broken 7 = .ok (.if_icmp .ge 29, 3) := by decide +kernel
theorem dX5_broken_10 : decode cX5_broken 10 = .ok (.aload_n 0, 1) := by decide +kernel
theorem dX5_broken_11 : decode cX5_broken 11 = .ok (.getfield 35, 3) := by decide +kernel
theorem dX5_broken_14 : decode cX5_broken 14 = .ok (.iload_n 1, 1) := by decide +kernel
theorem dX5_broken_15 : decode cX5_broken 15 = .ok (.iaload, 1) := by decide +kernel
theorem dX5_broken_16 : decode cX5_broken 16 = .ok (.aload_n 0, 1) := by decide +kernel
theorem dX5_broken_17 : decode cX5_broken 17 = .ok (.getfield 13, 3) := by decide +kernel
theorem dX5_broken_20 : decode cX5_broken 20 = .ok (.iload_n 1, 1) := by decide +kernel
theorem dX5_broken_21 : decode cX5_broken 21 = .ok (.iaload, 1) := by decide +kernel
theorem dX5_broken_22 : decode cX5_broken 22 = .ok (.if_icmp .le 8, 3) := by decide +kernel
theorem dX5_broken_25 : decode cX5_broken 25 = .ok (.bipush 100, 2) := by decide +kernel
theorem dX5_broken_27 : decode cX5_broken 27 = .ok (.iload_n 1, 1) := by decide +kernel
theorem dX5_broken_28 : decode cX5_broken 28 = .ok (.iadd, 1) := by decide +kernel
theorem dX5_broken_29 : decode cX5_broken 29 = .ok (.ireturn, 1) := by decide +kernel
theorem dX5_broken_30 : decode cX5_broken 30 = .ok (.iinc 1 1, 3) := by decide +kernel
theorem dX5_broken_33 : decode cX5_broken 33 = .ok (.goto (-31), 3) := by decide +kernel
theorem dX5_broken_36 : decode cX5_broken 36 = .ok (.iconst 0, 1) := by decide +kernel
theorem dX5_broken_37 : decode cX5_broken 37 = .ok (.istore_n 1, 1) := by decide +kernel
theorem dX5_broken_38 : decode cX5_broken 38 = .ok (.iload_n 1, 1) := by decide +kernel
theorem dX5_broken_39 : decode cX5_broken 39 = .ok (.aload_n 0, 1) := by decide +kernel
theorem dX5_broken_40 : decode cX5_broken 40 = .ok (.getfield 74, 3) := by decide +kernel
theorem dX5_broken_43 : decode cX5_broken 43 = .ok (.if_icmp .ge 32, 3) := by decide +kernel
theorem dX5_broken_46 : decode cX5_broken 46 = .ok (.aload_n 0, 1) := by decide +kernel
theorem dX5_broken_47 : decode cX5_broken 47 = .ok (.getfield 28, 3) := by decide +kernel
theorem dX5_broken_50 : decode cX5_broken 50 = .ok (.iload_n 1, 1) := by decide +kernel
theorem dX5_broken_51 : decode cX5_broken 51 = .ok (.baload, 1) := by decide +kernel
theorem dX5_broken_52 : decode cX5_broken 52 = .ok (.ifCond .eq 17, 3) := by decide +kernel
theorem dX5_broken_55 : decode cX5_broken 55 = .ok (.aload_n 0, 1) := by decide +kernel
theorem dX5_broken_56 : decode cX5_broken 56 = .ok (.iload_n 1, 1) := by decide +kernel
theorem dX5_broken_57 : decode cX5_broken 57 = .ok (.aload_n 0, 1) := by decide +kernel
theorem dX5_broken_58 : decode cX5_broken 58 = .ok (.getfield 35, 3) := by decide +kernel
theorem dX5_broken_61 : decode cX5_broken 61 = .ok (.invokevirtual 102, 3) := by decide +kernel
theorem dX5_broken_64 : decode cX5_broken 64 = .ok (.ifCond .ne 5, 3) := by decide +kernel
theorem dX5_broken_67 : decode cX5_broken 67 = .ok (.iload_n 1, 1) := by decide +kernel
theorem dX5_broken_68 : decode cX5_broken 68 = .ok (.ireturn, 1) := by decide +kernel
theorem dX5_broken_69 : decode cX5_broken 69 = .ok (.iinc 1 1, 3) := by decide +kernel
theorem dX5_broken_72 : decode cX5_broken 72 = .ok (.goto (-34), 3) := by decide +kernel
theorem dX5_broken_75 : decode cX5_broken 75 = .ok (.ldc 106, 2) := by decide +kernel
theorem dX5_broken_77 : decode cX5_broken 77 = .ok (.ireturn, 1) := by decide +kernel
theorem dX5_addRow_0 : decode cX5_addRow 0 = .ok (.aload_n 0, 1) := by decide +kernel
theorem dX5_addRow_1 : decode cX5_addRow 1 = .ok (.getfield 53, 3) := by decide +kernel
theorem dX5_addRow_4 : decode cX5_addRow 4 = .ok (.aload_n 0, 1) := by decide +kernel
theorem dX5_addRow_5 : decode cX5_addRow 5 = .ok (.getfield 146, 3) := by decide +kernel
theorem dX5_addRow_8 : decode cX5_addRow 8 = .ok (.iload_n 1, 1) := by decide +kernel
theorem dX5_addRow_9 : decode cX5_addRow 9 = .ok (.iastore, 1) := by decide +kernel
theorem dX5_addRow_10 : decode cX5_addRow 10 = .ok (.aload_n 0, 1) := by decide +kernel
theorem dX5_addRow_11 : decode cX5_addRow 11 = .ok (.getfield 56, 3) := by decide +kernel
theorem dX5_addRow_14 : decode cX5_addRow 14 = .ok (.aload_n 0, 1) := by decide +kernel
theorem dX5_addRow_15 : decode cX5_addRow 15 = .ok (.getfield 146, 3) := by decide +kernel
theorem dX5_addRow_18 : decode cX5_addRow 18 = .ok (.iload_n 2, 1) := by decide +kernel
theorem dX5_addRow_19 : decode cX5_addRow 19 = .ok (.iastore, 1) := by decide +kernel
theorem dX5_addRow_20 : decode cX5_addRow 20 = .ok (.iconst 0, 1) := by decide +kernel
theorem dX5_addRow_21 : decode cX5_addRow 21 = .ok (.istore_n 3, 1) := by decide +kernel
theorem dX5_addRow_22 : decode cX5_addRow 22 = .ok (.iload_n 3, 1) := by decide +kernel
theorem dX5_addRow_23 : decode cX5_addRow 23 = .ok (.iconst 4, 1) := by decide +kernel
theorem dX5_addRow_24 : decode cX5_addRow 24 = .ok (.if_icmp .ge 23, 3) := by decide +kernel
theorem dX5_addRow_27 : decode cX5_addRow 27 = .ok (.aload_n 0, 1) := by decide +kernel
theorem dX5_addRow_28 : decode cX5_addRow 28 = .ok (.getfield 50, 3) := by decide +kernel
theorem dX5_addRow_31 : decode cX5_addRow 31 = .ok (.iconst 4, 1) := by decide +kernel
theorem dX5_addRow_32 : decode cX5_addRow 32 = .ok (.aload_n 0, 1) := by decide +kernel
theorem dX5_addRow_33 : decode cX5_addRow 33 = .ok (.getfield 146, 3) := by decide +kernel
theorem dX5_addRow_36 : decode cX5_addRow 36 = .ok (.imul, 1) := by decide +kernel
theorem dX5_addRow_37 : decode cX5_addRow 37 = .ok (.iload_n 3, 1) := by decide +kernel
theorem dX5_addRow_38 : decode cX5_addRow 38 = .ok (.iadd, 1) := by decide +kernel
theorem dX5_addRow_39 : decode cX5_addRow 39 = .ok (.iconst 0, 1) := by decide +kernel
theorem dX5_addRow_40 : decode cX5_addRow 40 = .ok (.iastore, 1) := by decide +kernel
theorem dX5_addRow_41 : decode cX5_addRow 41 = .ok (.iinc 3 1, 3) := by decide +kernel
theorem dX5_addRow_44 : decode cX5_addRow 44 = .ok (.goto (-22), 3) := by decide +kernel
theorem dX5_addRow_47 : decode cX5_addRow 47 = .ok (.aload_n 0, 1) := by decide +kernel
theorem dX5_addRow_48 : decode cX5_addRow 48 = .ok (.dup, 1) := by decide +kernel
theorem dX5_addRow_49 : decode cX5_addRow 49 = .ok (.getfield 146, 3) := by decide +kernel
theorem dX5_addRow_52 : decode cX5_addRow 52 = .ok (.iconst 1, 1) := by decide +kernel
theorem dX5_addRow_53 : decode cX5_addRow 53 = .ok (.iadd, 1) := by decide +kernel
theorem dX5_addRow_54 : decode cX5_addRow 54 = .ok (.putfield 146, 3) := by decide +kernel
theorem dX5_addRow_57 : decode cX5_addRow 57 = .ok (.return_, 1) := by decide +kernel
theorem dX5_rowsNow_0 : decode cX5_rowsNow 0 = .ok (.aload_n 0, 1) := by decide +kernel
theorem dX5_rowsNow_1 : decode cX5_rowsNow 1 = .ok (.iconst 0, 1) := by decide +kernel
theorem dX5_rowsNow_2 : decode cX5_rowsNow 2 = .ok (.putfield 146, 3) := by decide +kernel
theorem dX5_rowsNow_5 : decode cX5_rowsNow 5 = .ok (.iconst 0, 1) := by decide +kernel
theorem dX5_rowsNow_6 : decode cX5_rowsNow 6 = .ok (.istore_n 1, 1) := by decide +kernel
theorem dX5_rowsNow_7 : decode cX5_rowsNow 7 = .ok (.iload_n 1, 1) := by decide +kernel
theorem dX5_rowsNow_8 : decode cX5_rowsNow 8 = .ok (.aload_n 0, 1) := by decide +kernel
theorem dX5_rowsNow_9 : decode cX5_rowsNow 9 = .ok (.getfield 66, 3) := by decide +kernel
theorem dX5_rowsNow_12 : decode cX5_rowsNow 12 = .ok (.if_icmp .ge 60, 3) := by decide +kernel
theorem dX5_rowsNow_15 : decode cX5_rowsNow 15 = .ok (.aload_n 0, 1) := by decide +kernel
theorem dX5_rowsNow_16 : decode cX5_rowsNow 16 = .ok (.aload_n 0, 1) := by decide +kernel
theorem dX5_rowsNow_17 : decode cX5_rowsNow 17 = .ok (.getfield 13, 3) := by decide +kernel
theorem dX5_rowsNow_20 : decode cX5_rowsNow 20 = .ok (.iload_n 1, 1) := by decide +kernel
theorem dX5_rowsNow_21 : decode cX5_rowsNow 21 = .ok (.iaload, 1) := by decide +kernel
theorem dX5_rowsNow_22 : decode cX5_rowsNow 22 = .ok (.ldc 106, 2) := by decide +kernel
theorem dX5_rowsNow_24 : decode cX5_rowsNow 24 = .ok (.invokevirtual 149, 3) := by decide +kernel
theorem dX5_rowsNow_27 : decode cX5_rowsNow 27 = .ok (.aload_n 0, 1) := by decide +kernel
theorem dX5_rowsNow_28 : decode cX5_rowsNow 28 = .ok (.getfield 50, 3) := by decide +kernel
theorem dX5_rowsNow_31 : decode cX5_rowsNow 31 = .ok (.iconst 4, 1) := by decide +kernel
theorem dX5_rowsNow_32 : decode cX5_rowsNow 32 = .ok (.aload_n 0, 1) := by decide +kernel
theorem dX5_rowsNow_33 : decode cX5_rowsNow 33 = .ok (.getfield 146, 3) := by decide +kernel
theorem dX5_rowsNow_36 : decode cX5_rowsNow 36 = .ok (.imul, 1) := by decide +kernel
theorem dX5_rowsNow_37 : decode cX5_rowsNow 37 = .ok (.iconst 4, 1) := by decide +kernel
theorem dX5_rowsNow_38 : decode cX5_rowsNow 38 = .ok (.isub, 1) := by decide +kernel
theorem dX5_rowsNow_39 : decode cX5_rowsNow 39 = .ok (.iload_n 1, 1) := by decide +kernel
theorem dX5_rowsNow_40 : decode cX5_rowsNow 40 = .ok (.iadd, 1) := by decide +kernel
theorem dX5_rowsNow_41 : decode cX5_rowsNow 41 = .ok (.iconst 1, 1) := by decide +kernel
theorem dX5_rowsNow_42 : decode cX5_rowsNow 42 = .ok (.iastore, 1) := by decide +kernel
theorem dX5_rowsNow_43 : decode cX5_rowsNow 43 = .ok (.aload_n 0, 1) := by decide +kernel
theorem dX5_rowsNow_44 : decode cX5_rowsNow 44 = .ok (.iconst 0, 1) := by decide +kernel
theorem dX5_rowsNow_45 : decode cX5_rowsNow 45 = .ok (.ldc 106, 2) := by decide +kernel
theorem dX5_rowsNow_47 : decode cX5_rowsNow 47 = .ok (.invokevirtual 149, 3) := by decide +kernel
theorem dX5_rowsNow_50 : decode cX5_rowsNow 50 = .ok (.aload_n 0, 1) := by decide +kernel
theorem dX5_rowsNow_51 : decode cX5_rowsNow 51 = .ok (.getfield 50, 3) := by decide +kernel
theorem dX5_rowsNow_54 : decode cX5_rowsNow 54 = .ok (.iconst 4, 1) := by decide +kernel
theorem dX5_rowsNow_55 : decode cX5_rowsNow 55 = .ok (.aload_n 0, 1) := by decide +kernel
theorem dX5_rowsNow_56 : decode cX5_rowsNow 56 = .ok (.getfield 146, 3) := by decide +kernel
theorem dX5_rowsNow_59 : decode cX5_rowsNow 59 = .ok (.imul, 1) := by decide +kernel
theorem dX5_rowsNow_60 : decode cX5_rowsNow 60 = .ok (.iconst 4, 1) := by decide +kernel
theorem dX5_rowsNow_61 : decode cX5_rowsNow 61 = .ok (.isub, 1) := by decide +kernel
theorem dX5_rowsNow_62 : decode cX5_rowsNow 62 = .ok (.iload_n 1, 1) := by decide +kernel
theorem dX5_rowsNow_63 : decode cX5_rowsNow 63 = .ok (.iadd, 1) := by decide +kernel
theorem dX5_rowsNow_64 : decode cX5_rowsNow 64 = .ok (.iconst (-1), 1) := by decide +kernel
theorem dX5_rowsNow_65 : decode cX5_rowsNow 65 = .ok (.iastore, 1) := by decide +kernel
theorem dX5_rowsNow_66 : decode cX5_rowsNow 66 = .ok (.iinc 1 1, 3) := by decide +kernel
theorem dX5_rowsNow_69 : decode cX5_rowsNow 69 = .ok (.goto (-62), 3) := by decide +kernel
theorem dX5_rowsNow_72 : decode cX5_rowsNow 72 = .ok (.iconst 0, 1) := by decide +kernel
theorem dX5_rowsNow_73 : decode cX5_rowsNow 73 = .ok (.istore_n 1, 1) := by decide +kernel
theorem dX5_rowsNow_74 : decode cX5_rowsNow 74 = .ok (.iload_n 1, 1) := by decide +kernel
theorem dX5_rowsNow_75 : decode cX5_rowsNow 75 = .ok (.aload_n 0, 1) := by decide +kernel
theorem dX5_rowsNow_76 : decode cX5_rowsNow 76 = .ok (.getfield 74, 3) := by decide +kernel
theorem dX5_rowsNow_79 : decode cX5_rowsNow 79 = .ok (.if_icmp .ge 128, 3) := by decide +kernel
theorem dX5_rowsNow_82 : decode cX5_rowsNow 82 = .ok (.aload_n 0, 1) := by decide +kernel
theorem dX5_rowsNow_83 : decode cX5_rowsNow 83 = .ok (.getfield 28, 3) := by decide +kernel
theorem dX5_rowsNow_86 : decode cX5_rowsNow 86 = .ok (.iload_n 1, 1) := by decide +kernel
theorem dX5_rowsNow_87 : decode cX5_rowsNow 87 = .ok (.baload, 1) := by decide +kernel
theorem dX5_rowsNow_88 : decode cX5_rowsNow 88 = .ok (.ifCond .eq 113, 3) := by decide +kernel
theorem dX5_rowsNow_91 : decode cX5_rowsNow 91 = .ok (.aload_n 0, 1) := by decide +kernel
theorem dX5_rowsNow_92 : decode cX5_rowsNow 92 = .ok (.getfield 16, 3) := by decide +kernel
theorem dX5_rowsNow_95 : decode cX5_rowsNow 95 = .ok (.iload_n 1, 1) := by decide +kernel
theorem dX5_rowsNow_96 : decode cX5_rowsNow 96 = .ok (.iaload, 1) := by decide +kernel
end
section
theorem dX5_rowsNow_97 : decode cX5_rowsNow 97 = .ok (.iconst 2, 1) := by decide +kernel
theorem dX5_rowsNow_98 : decode cX5_rowsNow 98 = .ok (.if_icmp .ne 6, 3) := by decide +kernel
theorem dX5_rowsNow_101 : decode cX5_rowsNow 101 = .ok (.goto 100, 3) := by decide +kernel
theorem dX5_rowsNow_104 : decode cX5_rowsNow 104 = .ok (.aload_n 0, 1) := by decide +kernel
theorem dX5_rowsNow_105 : decode cX5_rowsNow 105 = .ok (.aload_n 0, 1) := by decide +kernel
theorem dX5_rowsNow_106 : decode cX5_rowsNow 106 = .ok (.getfield 25, 3) := by decide +kernel
theorem dX5_rowsNow_109 : decode cX5_rowsNow 109 = .ok (.iload_n 1, 1) := by decide +kernel
theorem dX5_rowsNow_110 : decode cX5_rowsNow 110 = .ok (.iaload, 1) := by decide +kernel
theorem dX5_rowsNow_111 : decode cX5_rowsNow 111 = .ok (.iload_n 1, 1) := by decide +kernel
theorem dX5_rowsNow_112 : decode cX5_rowsNow 112 = .ok (.invokevirtual 149, 3) := by decide +kernel
theorem dX5_rowsNow_115 : decode cX5_rowsNow 115 = .ok (.iconst 0, 1) := by decide +kernel
theorem dX5_rowsNow_116 : decode cX5_rowsNow 116 = .ok (.istore_n 2, 1) := by decide +kernel
theorem dX5_rowsNow_117 : decode cX5_rowsNow 117 = .ok (.iload_n 2, 1) := by decide +kernel
theorem dX5_rowsNow_118 : decode cX5_rowsNow 118 = .ok (.aload_n 0, 1) := by decide +kernel
theorem dX5_rowsNow_119 : decode cX5_rowsNow 119 = .ok (.getfield 66, 3) := by decide +kernel
theorem dX5_rowsNow_122 : decode cX5_rowsNow 122 = .ok (.if_icmp .ge 79, 3) := by decide +kernel
theorem dX5_rowsNow_125 : decode cX5_rowsNow 125 = .ok (.aload_n 0, 1) := by decide +kernel
theorem dX5_rowsNow_126 : decode cX5_rowsNow 126 = .ok (.getfield 19, 3) := by decide +kernel
theorem dX5_rowsNow_129 : decode cX5_rowsNow 129 = .ok (.iload_n 1, 1) := by decide +kernel
theorem dX5_rowsNow_130 : decode cX5_rowsNow 130 = .ok (.iaload, 1) := by decide +kernel
theorem dX5_rowsNow_131 : decode cX5_rowsNow 131 = .ok (.iload_n 2, 1) := by decide +kernel
theorem dX5_rowsNow_132 : decode cX5_rowsNow 132 = .ok (.if_icmp .ne 7, 3) := by decide +kernel
theorem dX5_rowsNow_135 : decode cX5_rowsNow 135 = .ok (.iconst 1, 1) := by decide +kernel
theorem dX5_rowsNow_136 : decode cX5_rowsNow 136 = .ok (.goto 4, 3) := by decide +kernel
theorem dX5_rowsNow_139 : decode cX5_rowsNow 139 = .ok (.iconst 0, 1) := by decide +kernel
theorem dX5_rowsNow_140 : decode cX5_rowsNow 140 = .ok (.aload_n 0, 1) := by decide +kernel
theorem dX5_rowsNow_141 : decode cX5_rowsNow 141 = .ok (.getfield 22, 3) := by decide +kernel
theorem dX5_rowsNow_144 : decode cX5_rowsNow 144 = .ok (.iload_n 1, 1) := by decide +kernel
theorem dX5_rowsNow_145 : decode cX5_rowsNow 145 = .ok (.iaload, 1) := by decide +kernel
theorem dX5_rowsNow_146 : decode cX5_rowsNow 146 = .ok (.iload_n 2, 1) := by decide +kernel
theorem dX5_rowsNow_147 : decode cX5_rowsNow 147 = .ok (.if_icmp .ne 7, 3) := by decide +kernel
theorem dX5_rowsNow_150 : decode cX5_rowsNow 150 = .ok (.iconst 1, 1) := by decide +kernel
theorem dX5_rowsNow_151 : decode cX5_rowsNow 151 = .ok (.goto 4, 3) := by decide +kernel
theorem dX5_rowsNow_154 : decode cX5_rowsNow 154 = .ok (.iconst 0, 1) := by decide +kernel
theorem dX5_rowsNow_155 : decode cX5_rowsNow 155 = .ok (.isub, 1) := by decide +kernel
theorem dX5_rowsNow_156 : decode cX5_rowsNow 156 = .ok (.istore_n 3, 1) := by decide +kernel
theorem dX5_rowsNow_157 : decode cX5_rowsNow 157 = .ok (.aload_n 0, 1) := by decide +kernel
theorem dX5_rowsNow_158 : decode cX5_rowsNow 158 = .ok (.getfield 50, 3) := by decide +kernel
theorem dX5_rowsNow_161 : decode cX5_rowsNow 161 = .ok (.iconst 4, 1) := by decide +kernel
theorem dX5_rowsNow_162 : decode cX5_rowsNow 162 = .ok (.aload_n 0, 1) := by decide +kernel
theorem dX5_rowsNow_163 : decode cX5_rowsNow 163 = .ok (.getfield 146, 3) := by decide +kernel
theorem dX5_rowsNow_166 : decode cX5_rowsNow 166 = .ok (.imul, 1) := by decide +kernel
theorem dX5_rowsNow_167 : decode cX5_rowsNow 167 = .ok (.iconst 4, 1) := by decide +kernel
theorem dX5_rowsNow_168 : decode cX5_rowsNow 168 = .ok (.isub, 1) := by decide +kernel
theorem dX5_rowsNow_169 : decode cX5_rowsNow 169 = .ok (.iload_n 2, 1) := by decide +kernel
theorem dX5_rowsNow_170 : decode cX5_rowsNow 170 = .ok (.iadd, 1) := by decide +kernel
theorem dX5_rowsNow_171 : decode cX5_rowsNow 171 = .ok (.aload_n 0, 1) := by decide +kernel
theorem dX5_rowsNow_172 : decode cX5_rowsNow 172 = .ok (.getfield 16, 3) := by decide +kernel
theorem dX5_rowsNow_175 : decode cX5_rowsNow 175 = .ok (.iload_n 1, 1) := by decide +kernel
theorem dX5_rowsNow_176 : decode cX5_rowsNow 176 = .ok (.iaload, 1) := by decide +kernel
theorem dX5_rowsNow_177 : decode cX5_rowsNow 177 = .ok (.ifCond .ne 16, 3) := by decide +kernel
theorem dX5_rowsNow_180 : decode cX5_rowsNow 180 = .ok (.aload_n 0, 1) := by decide +kernel
theorem dX5_rowsNow_181 : decode cX5_rowsNow 181 = .ok (.getfield 32, 3) := by decide +kernel
theorem dX5_rowsNow_184 : decode cX5_rowsNow 184 = .ok (.iconst 4, 1) := by decide +kernel
theorem dX5_rowsNow_185 : decode cX5_rowsNow 185 = .ok (.iload_n 1, 1) := by decide +kernel
theorem dX5_rowsNow_186 : decode cX5_rowsNow 186 = .ok (.imul, 1) := by decide +kernel
theorem dX5_rowsNow_187 : decode cX5_rowsNow 187 = .ok (.iload_n 2, 1) := by decide +kernel
theorem dX5_rowsNow_188 : decode cX5_rowsNow 188 = .ok (.iadd, 1) := by decide +kernel
theorem dX5_rowsNow_189 : decode cX5_rowsNow 189 = .ok (.iaload, 1) := by decide +kernel
theorem dX5_rowsNow_190 : decode cX5_rowsNow 190 = .ok (.goto 4, 3) := by decide +kernel
theorem dX5_rowsNow_193 : decode cX5_rowsNow 193 = .ok (.iload_n 3, 1) := by decide +kernel
theorem dX5_rowsNow_194 : decode cX5_rowsNow 194 = .ok (.iastore, 1) := by decide +kernel
theorem dX5_rowsNow_195 : decode cX5_rowsNow 195 = .ok (.iinc 2 1, 3) := by decide +kernel
theorem dX5_rowsNow_198 : decode cX5_rowsNow 198 = .ok (.goto (-81), 3) := by decide +kernel
theorem dX5_rowsNow_201 : decode cX5_rowsNow 201 = .ok (.iinc 1 1, 3) := by decide +kernel
theorem dX5_rowsNow_204 : decode cX5_rowsNow 204 = .ok (.goto (-130), 3) := by decide +kernel
theorem dX5_rowsNow_207 : decode cX5_rowsNow 207 = .ok (.return_, 1) := by decide +kernel
theorem dX5_determinant_0 : decode cX5_determinant 0 = .ok (.aload_n 0, 1) := by decide +kernel
theorem dX5_determinant_1 : decode cX5_determinant 1 = .ok (.getfield 66, 3) := by decide +kernel
theorem dX5_determinant_4 : decode cX5_determinant 4 = .ok (.istore_n 2, 1) := by decide +kernel
theorem dX5_determinant_5 : decode cX5_determinant 5 = .ok (.iconst 0, 1) := by decide +kernel
theorem dX5_determinant_6 : decode cX5_determinant 6 = .ok (.istore_n 3, 1) := by decide +kernel
theorem dX5_determinant_7 : decode cX5_determinant 7 = .ok (.iload_n 3, 1) := by decide +kernel
theorem dX5_determinant_8 : decode cX5_determinant 8 = .ok (.iload_n 2, 1) := by decide +kernel
theorem dX5_determinant_9 : decode cX5_determinant 9 = .ok (.if_icmp .ge 68, 3) := by decide +kernel
theorem dX5_determinant_12 : decode cX5_determinant 12 = .ok (.iconst 0, 1) := by decide +kernel
theorem dX5_determinant_13 : decode cX5_determinant 13 = .ok (.istore 4, 2) := by decide +kernel
theorem dX5_determinant_15 : decode cX5_determinant 15 = .ok (.iload 4, 2) := by decide +kernel
theorem dX5_determinant_17 : decode cX5_determinant 17 = .ok (.iload_n 2, 1) := by decide +kernel
theorem dX5_determinant_18 : decode cX5_determinant 18 = .ok (.if_icmp .ge 53, 3) := by decide +kernel
theorem dX5_determinant_21 : decode cX5_determinant 21 = .ok (.aload_n 0, 1) := by decide +kernel
theorem dX5_determinant_22 : decode cX5_determinant 22 = .ok (.getfield 62, 3) := by decide +kernel
theorem dX5_determinant_25 : decode cX5_determinant 25 = .ok (.iconst 4, 1) := by decide +kernel
theorem dX5_determinant_26 : decode cX5_determinant 26 = .ok (.iload_n 3, 1) := by decide +kernel
theorem dX5_determinant_27 : decode cX5_determinant 27 = .ok (.imul, 1) := by decide +kernel
theorem dX5_determinant_28 : decode cX5_determinant 28 = .ok (.iload 4, 2) := by decide +kernel
theorem dX5_determinant_30 : decode cX5_determinant 30 = .ok (.iadd, 1) := by decide +kernel
theorem dX5_determinant_31 : decode cX5_determinant 31 = .ok (.iload_n 3, 1) := by decide +kernel
theorem dX5_determinant_32 : decode cX5_determinant 32 = .ok (.iload_n 1, 1) := by decide +kernel
theorem dX5_determinant_33 : decode cX5_determinant 33 = .ok (.if_icmp .ne 14, 3) := by decide +kernel
theorem dX5_determinant_36 : decode cX5_determinant 36 = .ok (.aload_n 0, 1) := by decide +kernel
theorem dX5_determinant_37 : decode cX5_determinant 37 = .ok (.getfield 7, 3) := by decide +kernel
theorem dX5_determinant_40 : decode cX5_determinant 40 = .ok (.iload 4, 2) := by decide +kernel
theorem dX5_determinant_42 : decode cX5_determinant 42 = .ok (.iaload, 1) := by decide +kernel
theorem dX5_determinant_43 : decode cX5_determinant 43 = .ok (.i2l, 1) := by decide +kernel
theorem dX5_determinant_44 : decode cX5_determinant 44 = .ok (.goto 20, 3) := by decide +kernel
theorem dX5_determinant_47 : decode cX5_determinant 47 = .ok (.aload_n 0, 1) := by decide +kernel
theorem dX5_determinant_48 : decode cX5_determinant 48 = .ok (.getfield 50, 3) := by decide +kernel
theorem dX5_determinant_51 : decode cX5_determinant 51 = .ok (.iconst 4, 1) := by decide +kernel
theorem dX5_determinant_52 : decode cX5_determinant 52 = .ok (.aload_n 0, 1) := by decide +kernel
theorem dX5_determinant_53 : decode cX5_determinant 53 = .ok (.getfield 59, 3) := by decide +kernel
theorem dX5_determinant_56 : decode cX5_determinant 56 = .ok (.iload_n 3, 1) := by decide +kernel
theorem dX5_determinant_57 : decode cX5_determinant 57 = .ok (.iaload, 1) := by decide +kernel
theorem dX5_determinant_58 : decode cX5_determinant 58 = .ok (.imul, 1) := by decide +kernel
theorem dX5_determinant_59 : decode cX5_determinant 59 = .ok (.iload 4, 2) := by decide +kernel
theorem dX5_determinant_61 : decode cX5_determinant 61 = .ok (.iadd, 1) := by decide +kernel
theorem dX5_determinant_62 : decode cX5_determinant 62 = .ok (.iaload, 1) := by decide +kernel
theorem dX5_determinant_63 : decode cX5_determinant 63 = .ok (.i2l, 1) := by decide +kernel
theorem dX5_determinant_64 : decode cX5_determinant 64 = .ok (.lastore, 1) := by decide +kernel
theorem dX5_determinant_65 : decode cX5_determinant 65 = .ok (.iinc 4 1, 3) := by decide +kernel
theorem dX5_determinant_68 : decode cX5_determinant 68 = .ok (.goto (-53), 3) := by decide +kernel
theorem dX5_determinant_71 : decode cX5_determinant 71 = .ok (.iinc 3 1, 3) := by decide +kernel
theorem dX5_determinant_74 : decode cX5_determinant 74 = .ok (.goto (-67), 3) := by decide +kernel
theorem dX5_determinant_77 : decode cX5_determinant 77 = .ok (.lconst 1, 1) := by decide +kernel
theorem dX5_determinant_78 : decode cX5_determinant 78 = .ok (.lstore_n 3, 1) := by decide +kernel
theorem dX5_determinant_79 : decode cX5_determinant 79 = .ok (.lconst 1, 1) := by decide +kernel
theorem dX5_determinant_80 : decode cX5_determinant 80 = .ok (.lstore 5, 2) := by decide +kernel
theorem dX5_determinant_82 : decode cX5_determinant 82 = .ok (.iconst 0, 1) := by decide +kernel
theorem dX5_determinant_83 : decode cX5_determinant 83 = .ok (.istore 7, 2) := by decide +kernel
theorem dX5_determinant_85 : decode cX5_determinant 85 = .ok (.iload 7, 2) := by decide +kernel
theorem dX5_determinant_87 : decode cX5_determinant 87 = .ok (.iload_n 2, 1) := by decide +kernel
theorem dX5_determinant_88 : decode cX5_determinant 88 = .ok (.if_icmp .ge 248, 3) := by decide +kernel
theorem dX5_determinant_91 : decode cX5_determinant 91 = .ok (.iload 7, 2) := by decide +kernel
theorem dX5_determinant_93 : decode cX5_determinant 93 = .ok (.istore 8, 2) := by decide +kernel
theorem dX5_determinant_95 : decode cX5_determinant 95 = .ok (.iload 8, 2) := by decide +kernel
theorem dX5_determinant_97 : decode cX5_determinant 97 = .ok (.iload_n 2, 1) := by decide +kernel
theorem dX5_determinant_98 : decode cX5_determinant 98 = .ok (.if_icmp .ge 26, 3) := by decide +kernel
theorem dX5_determinant_101 : decode cX5_determinant 101 = .ok (.aload_n 0, 1) := by decide +kernel
theorem dX5_determinant_102 : decode cX5_determinant 102 = .ok (.getfield 62, 3) := by decide +kernel
theorem dX5_determinant_105 : decode cX5_determinant 105 = .ok (.iconst 4, 1) := by decide +kernel
theorem dX5_determinant_106 : decode cX5_determinant 106 = .ok (.iload 8, 2) := by decide +kernel
theorem dX5_determinant_108 : decode cX5_determinant 108 = .ok (.imul, 1) := by decide +kernel
theorem dX5_determinant_109 : decode cX5_determinant 109 = .ok (.iload 7, 2) := by decide +kernel
theorem dX5_determinant_111 : decode cX5_determinant 111 = .ok (.iadd, 1) := by decide +kernel
theorem dX5_determinant_112 : decode cX5_determinant 112 = .ok (.laload, 1) := by decide +kernel
theorem dX5_determinant_113 : decode cX5_determinant 113 = .ok (.lconst 0, 1) := by decide +kernel
theorem dX5_determinant_114 : decode cX5_determinant 114 = .ok (.lcmp, 1) := by decide +kernel
theorem dX5_determinant_115 : decode cX5_determinant 115 = .ok (.ifCond .ne 9, 3) := by decide +kernel
theorem dX5_determinant_118 : decode cX5_determinant 118 = .ok (.iinc 8 1, 3) := by decide +kernel
theorem dX5_determinant_121 : decode cX5_determinant 121 = .ok (.goto (-26), 3) := by decide +kernel
theorem dX5_determinant_124 : decode cX5_determinant 124 = .ok (.iload 8, 2) := by decide +kernel
theorem dX5_determinant_126 : decode cX5_determinant 126 = .ok (.iload_n 2, 1) := by decide +kernel
theorem dX5_determinant_127 : decode cX5_determinant 127 = .ok (.if_icmp .ne 5, 3) := by decide +kernel
theorem dX5_determinant_130 : decode cX5_determinant 130 = .ok (.lconst 0, 1) := by decide +kernel
theorem dX5_determinant_131 : decode cX5_determinant 131 = .ok (.lreturn, 1) := by decide +kernel
theorem dX5_determinant_132 : decode cX5_determinant 132 = .ok (.iconst 0, 1) := by decide +kernel
theorem dX5_determinant_133 : decode cX5_determinant 133 = .ok (.istore 9, 2) := by decide +kernel
theorem dX5_determinant_135 : decode cX5_determinant 135 = .ok (.iload 9, 2) := by decide +kernel
theorem dX5_determinant_137 : decode cX5_determinant 137 = .ok (.iload_n 2, 1) := by decide +kernel
theorem dX5_determinant_138 : decode cX5_determinant 138 = .ok (.if_icmp .ge 68, 3) := by decide +kernel
theorem dX5_determinant_141 : decode cX5_determinant 141 = .ok (.iload 8, 2) := by decide +kernel
theorem dX5_determinant_143 : decode cX5_determinant 143 = .ok (.iload 7, 2) := by decide +kernel
theorem dX5_determinant_145 : decode cX5_determinant 145 = .ok (.if_icmp .eq 61, 3) := by decide +kernel
theorem dX5_determinant_148 : decode cX5_determinant 148 = .ok (.aload_n 0, 1) := by decide +kernel
theorem dX5_determinant_149 : decode cX5_determinant 149 = .ok (.getfield 62, 3) := by decide +kernel
theorem dX5_determinant_152 : decode cX5_determinant 152 = .ok (.iconst 4, 1) := by decide +kernel
theorem dX5_determinant_153 : decode cX5_determinant 153 = .ok (.iload 8, 2) := by decide +kernel
theorem dX5_determinant_155 : decode cX5_determinant 155 = .ok (.imul, 1) := by decide +kernel
theorem dX5_determinant_156 : decode cX5_determinant 156 = .ok (.iload 9, 2) := by decide +kernel
theorem dX5_determinant_158 : decode cX5_determinant 158 = .ok (.iadd, 1) := by decide +kernel
theorem dX5_determinant_159 : decode cX5_determinant 159 = .ok (.laload, 1) := by decide +kernel
theorem dX5_determinant_160 : decode cX5_determinant 160 = .ok (.lstore 10, 2) := by decide +kernel
theorem dX5_determinant_162 : decode cX5_determinant 162 = .ok (.aload_n 0, 1) := by decide +kernel
theorem dX5_determinant_163 : decode cX5_determinant 163 = .ok (.getfield 62, 3) := by decide +kernel
theorem dX5_determinant_166 : decode cX5_determinant 166 = .ok (.iconst 4, 1) := by decide +kernel
theorem dX5_determinant_167 : decode cX5_determinant 167 = .ok (.iload 8, 2) := by decide +kernel
theorem dX5_determinant_169 : decode cX5_determinant 169 = .ok (.imul, 1) := by decide +kernel
theorem dX5_determinant_170 : decode cX5_determinant 170 = .ok (.iload 9, 2) := by decide +kernel
theorem dX5_determinant_172 : decode cX5_determinant 172 = .ok (.iadd, 1) := by decide +kernel
theorem dX5_determinant_173 : decode cX5_determinant 173 = .ok (.aload_n 0, 1) := by decide +kernel
theorem dX5_determinant_174 : decode cX5_determinant 174 = .ok (.getfield 62, 3) := by decide +kernel
theorem dX5_determinant_177 : decode cX5_determinant 177 = .ok (.iconst 4, 1) := by decide +kernel
theorem dX5_determinant_178 : decode cX5_determinant 178 = .ok (.iload 7, 2) := by decide +kernel
theorem dX5_determinant_180 : decode cX5_determinant 180 = .ok (.imul, 1) := by decide +kernel
theorem dX5_determinant_181 : decode cX5_determinant 181 = .ok (.iload 9, 2) := by decide +kernel
theorem dX5_determinant_183 : decode cX5_determinant 183 = .ok (.iadd, 1) := by decide +kernel
theorem dX5_determinant_184 : decode cX5_determinant 184 = .ok (.laload, 1) := by decide +kernel
theorem dX5_determinant_185 : decode cX5_determinant 185 = .ok (.lastore, 1) := by decide +kernel
theorem dX5_determinant_186 : decode cX5_determinant 186 = .ok (.aload_n 0, 1) := by decide +kernel
theorem dX5_determinant_187 : decode cX5_determinant 187 = .ok (.getfield 62, 3) := by decide +kernel
theorem dX5_determinant_190 : decode cX5_determinant 190 = .ok (.iconst 4, 1) := by decide +kernel
theorem dX5_determinant_191 : decode cX5_determinant 191 = .ok (.iload 7, 2) := by decide +kernel
theorem dX5_determinant_193 : decode cX5_determinant 193 = .ok (.imul, 1) := by decide +kernel
theorem dX5_determinant_194 : decode cX5_determinant 194 = .ok (.iload 9, 2) := by decide +kernel
theorem dX5_determinant_196 : decode cX5_determinant 196 = .ok (.iadd, 1) := by decide +kernel
theorem dX5_determinant_197 : decode cX5_determinant 197 = .ok (.lload 10, 2) := by decide +kernel
theorem dX5_determinant_199 : decode cX5_determinant 199 = .ok (.lastore, 1) := by decide +kernel
theorem dX5_determinant_200 : decode cX5_determinant 200 = .ok (.iinc 9 1, 3) := by decide +kernel
theorem dX5_determinant_203 : decode cX5_determinant 203 = .ok (.goto (-68), 3) := by decide +kernel
theorem dX5_determinant_206 : decode cX5_determinant 206 = .ok (.iload 8, 2) := by decide +kernel
theorem dX5_determinant_208 : decode cX5_determinant 208 = .ok (.iload 7, 2) := by decide +kernel
theorem dX5_determinant_210 : decode cX5_determinant 210 = .ok (.if_icmp .ne 7, 3) := by decide +kernel
theorem dX5_determinant_213 : decode cX5_determinant 213 = .ok (.lload_n 3, 1) := by decide +kernel
theorem dX5_determinant_214 : decode cX5_determinant 214 = .ok (.goto 5, 3) := by decide +kernel
theorem dX5_determinant_217 : decode cX5_determinant 217 = .ok (.lload_n 3, 1) := by decide +kernel
theorem dX5_determinant_218 : decode cX5_determinant 218 = .ok (.lneg, 1) := by decide +kernel
theorem dX5_determinant_219 : decode cX5_determinant 219 = .ok (.lstore_n 3, 1) := by decide +kernel
theorem dX5_determinant_220 : decode cX5_determinant 220 = .ok (.aload_n 0, 1) := by decide +kernel
theorem dX5_determinant_221 : decode cX5_determinant 221 = .ok (.getfield 62, 3) := by decide +kernel
theorem dX5_determinant_224 : decode cX5_determinant 224 = .ok (.iconst 4, 1) := by decide +kernel
theorem dX5_determinant_225 : decode cX5_determinant 225 = .ok (.iload 7, 2) := by decide +kernel
theorem dX5_determinant_227 : decode cX5_determinant 227 = .ok (.imul, 1) := by decide +kernel
theorem dX5_determinant_228 : decode cX5_determinant 228 = .ok (.iload 7, 2) := by decide +kernel
theorem dX5_determinant_230 : decode cX5_determinant 230 = .ok (.iadd, 1) := by decide +kernel
theorem dX5_determinant_231 : decode cX5_determinant 231 = .ok (.laload, 1) := by decide +kernel
theorem dX5_determinant_232 : decode cX5_determinant 232 = .ok (.lstore 9, 2) := by decide +kernel
theorem dX5_determinant_234 : decode cX5_determinant 234 = .ok (.iload 7, 2) := by decide +kernel
theorem dX5_determinant_236 : decode cX5_determinant 236 = .ok (.iconst 1, 1) := by decide +kernel
theorem dX5_determinant_237 : decode cX5_determinant 237 = .ok (.iadd, 1) := by decide +kernel
theorem dX5_determinant_238 : decode cX5_determinant 238 = .ok (.istore 11, 2) := by decide +kernel
theorem dX5_determinant_240 : decode cX5_determinant 240 = .ok (.iload 11, 2) := by decide +kernel
theorem dX5_determinant_242 : decode cX5_determinant 242 = .ok (.iload_n 2, 1) := by decide +kernel
theorem dX5_determinant_243 : decode cX5_determinant 243 = .ok (.if_icmp .ge 83, 3) := by decide +kernel
theorem dX5_determinant_246 : decode cX5_determinant 246 = .ok (.iload_n 2, 1) := by decide +kernel
theorem dX5_determinant_247 : decode cX5_determinant 247 = .ok (.iconst 1, 1) := by decide +kernel
theorem dX5_determinant_248 : decode cX5_determinant 248 = .ok (.isub, 1) := by decide +kernel
theorem dX5_determinant_249 : decode cX5_determinant 249 = .ok (.istore 12, 2) := by decide +kernel
theorem dX5_determinant_251 : decode cX5_determinant 251 = .ok (.iload 12, 2) := by decide +kernel
theorem dX5_determinant_253 : decode cX5_determinant 253 = .ok (.iload 7, 2) := by decide +kernel
theorem dX5_determinant_255 : decode cX5_determinant 255 = .ok (.if_icmp .lt 65, 3) := by decide +kernel
theorem dX5_determinant_258 : decode cX5_determinant 258 = .ok (.aload_n 0, 1) := by decide +kernel
theorem dX5_determinant_259 : decode cX5_determinant 259 = .ok (.getfield 62, 3) := by decide +kernel
theorem dX5_determinant_262 : decode cX5_determinant 262 = .ok (.iconst 4, 1) := by decide +kernel
theorem dX5_determinant_263 : decode cX5_determinant 263 = .ok (.iload 11, 2) := by decide +kernel
theorem dX5_determinant_265 : decode cX5_determinant 265 = .ok (.imul, 1) := by decide +kernel
theorem dX5_determinant_266 : decode cX5_determinant 266 = .ok (.iload 12, 2) := by decide +kernel
theorem dX5_determinant_268 : decode cX5_determinant 268 = .ok (.iadd, 1) := by decide +kernel
theorem dX5_determinant_269 : decode cX5_determinant 269 = .ok (.aload_n 0, 1) := by decide +kernel
theorem dX5_determinant_270 : decode cX5_determinant 270 = .ok (.getfield 62, 3) := by decide +kernel
theorem dX5_determinant_273 : decode cX5_determinant 273 = .ok (.iconst 4, 1) := by decide +kernel
theorem dX5_determinant_274 : decode cX5_determinant 274 = .ok (.iload 11, 2) := by decide +kernel
theorem dX5_determinant_276 : decode cX5_determinant 276 = .ok (.imul, 1) := by decide +kernel
theorem dX5_determinant_277 : decode cX5_determinant 277 = .ok (.iload 12, 2) := by decide +kernel
theorem dX5_determinant_279 : decode cX5_determinant 279 = .ok (.iadd, 1) := by decide +kernel
theorem dX5_determinant_280 : decode cX5_determinant 280 = .ok (.laload, 1) := by decide +kernel
theorem dX5_determinant_281 : decode cX5_determinant 281 = .ok (.lload 9, 2) := by decide +kernel
theorem dX5_determinant_283 : decode cX5_determinant 283 = .ok (.lmul, 1) := by decide +kernel
theorem dX5_determinant_284 : decode cX5_determinant 284 = .ok (.aload_n 0, 1) := by decide +kernel
theorem dX5_determinant_285 : decode cX5_determinant 285 = .ok (.getfield 62, 3) := by decide +kernel
theorem dX5_determinant_288 : decode cX5_determinant 288 = .ok (.iconst 4, 1) := by decide +kernel
theorem dX5_determinant_289 : decode cX5_determinant 289 = .ok (.iload 11, 2) := by decide +kernel
theorem dX5_determinant_291 : decode cX5_determinant 291 = .ok (.imul, 1) := by decide +kernel
theorem dX5_determinant_292 : decode cX5_determinant 292 = .ok (.iload 7, 2) := by decide +kernel
theorem dX5_determinant_294 : decode cX5_determinant 294 = .ok (.iadd, 1) := by decide +kernel
theorem dX5_determinant_295 : decode cX5_determinant 295 = .ok (.laload, 1) := by decide +kernel
theorem dX5_determinant_296 : decode cX5_determinant 296 = .ok (.aload_n 0, 1) := by decide +kernel
theorem dX5_determinant_297 : decode cX5_determinant 297 = .ok (.getfield 62, 3) := by decide +kernel
theorem dX5_determinant_300 : decode cX5_determinant 300 = .ok (.iconst 4, 1) := by decide +kernel
theorem dX5_determinant_301 : decode cX5_determinant 301 = .ok (.iload 7, 2) := by decide +kernel
theorem dX5_determinant_303 : decode cX5_determinant 303 = .ok (.imul, 1) := by decide +kernel
theorem dX5_determinant_304 : decode cX5_determinant 304 = .ok (.iload 12, 2) := by decide +kernel
theorem dX5_determinant_306 : decode cX5_determinant 306 = .ok (.iadd, 1) := by decide +kernel
theorem dX5_determinant_307 : decode cX5_determinant 307 = .ok (.laload, 1) := by decide +kernel
theorem dX5_determinant_308 : decode cX5_determinant 308 = .ok (.lmul, 1) := by decide +kernel
theorem dX5_determinant_309 : decode cX5_determinant 309 = .ok (.lsub, 1) := by decide +kernel
theorem dX5_determinant_310 : decode cX5_determinant 310 = .ok (.lload 5, 2) := by decide +kernel
theorem dX5_determinant_312 : decode cX5_determinant 312 = .ok (.ldiv, 1) := by decide +kernel
theorem dX5_determinant_313 : decode cX5_determinant 313 = .ok (.lastore, 1) := by decide +kernel
theorem dX5_determinant_314 : decode cX5_determinant 314 = .ok (.iinc 12 (-1), 3) := by decide +kernel
theorem dX5_determinant_317 : decode cX5_determinant 317 = .ok (.goto (-66), 3) := by decide +kernel
theorem dX5_determinant_320 : decode cX5_determinant 320 = .ok (.iinc 11 1, 3) := by decide +kernel
theorem dX5_determinant_323 : decode cX5_determinant 323 = .ok (.goto (-83), 3) := by decide +kernel
theorem dX5_determinant_326 : decode cX5_determinant 326 = .ok (.lload 9, 2) := by decide +kernel
theorem dX5_determinant_328 : decode cX5_determinant 328 = .ok (.lstore 5, 2) := by decide +kernel
theorem dX5_determinant_330 : decode cX5_determinant 330 = .ok (.iinc 7 1, 3) := by decide +kernel
theorem dX5_determinant_333 : decode cX5_determinant 333 = .ok (.goto (-248), 3) := by decide +kernel
theorem dX5_determinant_336 : decode cX5_determinant 336 = .ok (.lload_n 3, 1) := by decide +kernel
theorem dX5_determinant_337 : decode cX5_determinant 337 = .ok (.lload 5, 2) := by decide +kernel
theorem dX5_determinant_339 : decode cX5_determinant 339 = .ok (.lmul, 1) := by decide +kernel
theorem dX5_determinant_340 : decode cX5_determinant 340 = .ok (.lreturn, 1) := by decide +kernel
theorem dX5_isPriced_0 : decode cX5_isPriced 0 = .ok (.iconst 0, 1) := by decide +kernel
theorem dX5_isPriced_1 : decode cX5_isPriced 1 = .ok (.istore_n 3, 1) := by decide +kernel
theorem dX5_isPriced_2 : decode cX5_isPriced 2 = .ok (.iconst 0, 1) := by decide +kernel
theorem dX5_isPriced_3 : decode cX5_isPriced 3 = .ok (.istore 4, 2) := by decide +kernel
theorem dX5_isPriced_5 : decode cX5_isPriced 5 = .ok (.iload 4, 2) := by decide +kernel
theorem dX5_isPriced_7 : decode cX5_isPriced 7 = .ok (.aload_n 0, 1) := by decide +kernel
theorem dX5_isPriced_8 : decode cX5_isPriced 8 = .ok (.getfield 146, 3) := by decide +kernel
theorem dX5_isPriced_11 : decode cX5_isPriced 11 = .ok (.if_icmp .ge 30, 3) := by decide +kernel
theorem dX5_isPriced_14 : decode cX5_isPriced 14 = .ok (.iload_n 1, 1) := by decide +kernel
theorem dX5_isPriced_15 : decode cX5_isPriced 15 = .ok (.iload 4, 2) := by decide +kernel
theorem dX5_isPriced_17 : decode cX5_isPriced 17 = .ok (.ishr, 1) := by decide +kernel
theorem dX5_isPriced_18 : decode cX5_isPriced 18 = .ok (.iconst 1, 1) := by decide +kernel
theorem dX5_isPriced_19 : decode cX5_isPriced 19 = .ok (.iand, 1) := by decide +kernel
theorem dX5_isPriced_20 : decode cX5_isPriced 20 = .ok (.iconst 1, 1) := by decide +kernel
theorem dX5_isPriced_21 : decode cX5_isPriced 21 = .ok (.if_icmp .ne 14, 3) := by decide +kernel
theorem dX5_isPriced_24 : decode cX5_isPriced 24 = .ok (.aload_n 0, 1) := by decide +kernel
theorem dX5_isPriced_25 : decode cX5_isPriced 25 = .ok (.getfield 59, 3) := by decide +kernel
theorem dX5_isPriced_28 : decode cX5_isPriced 28 = .ok (.iload_n 3, 1) := by decide +kernel
theorem dX5_isPriced_29 : decode cX5_isPriced 29 = .ok (.iload 4, 2) := by decide +kernel
theorem dX5_isPriced_31 : decode cX5_isPriced 31 = .ok (.iastore, 1) := by decide +kernel
theorem dX5_isPriced_32 : decode cX5_isPriced 32 = .ok (.iinc 3 1, 3) := by decide +kernel
theorem dX5_isPriced_35 : decode cX5_isPriced 35 = .ok (.iinc 4 1, 3) := by decide +kernel
theorem dX5_isPriced_38 : decode cX5_isPriced 38 = .ok (.goto (-33), 3) := by decide +kernel
theorem dX5_isPriced_41 : decode cX5_isPriced 41 = .ok (.iload_n 3, 1) := by decide +kernel
theorem dX5_isPriced_42 : decode cX5_isPriced 42 = .ok (.aload_n 0, 1) := by decide +kernel
theorem dX5_isPriced_43 : decode cX5_isPriced 43 = .ok (.getfield 66, 3) := by decide +kernel
theorem dX5_isPriced_46 : decode cX5_isPriced 46 = .ok (.if_icmp .eq 5, 3) := by decide +kernel
theorem dX5_isPriced_49 : decode cX5_isPriced 49 = .ok (.iconst 0, 1) := by decide +kernel
theorem dX5_isPriced_50 : decode cX5_isPriced 50 = .ok (.ireturn, 1) := by decide +kernel
theorem dX5_isPriced_51 : decode cX5_isPriced 51 = .ok (.aload_n 0, 1) := by decide +kernel
theorem dX5_isPriced_52 : decode cX5_isPriced 52 = .ok (.ldc 106, 2) := by decide +kernel
theorem dX5_isPriced_54 : decode cX5_isPriced 54 = .ok (.invokevirtual 152, 3) := by decide +kernel
theorem dX5_isPriced_57 : decode cX5_isPriced 57 = .ok (.lstore 4, 2) := by decide +kernel
theorem dX5_isPriced_59 : decode cX5_isPriced 59 = .ok (.lload 4, 2) := by decide +kernel
theorem dX5_isPriced_61 : decode cX5_isPriced 61 = .ok (.lconst 0, 1) := by decide +kernel
theorem dX5_isPriced_62 : decode cX5_isPriced 62 = .ok (.lcmp, 1) := by decide +kernel
theorem dX5_isPriced_63 : decode cX5_isPriced 63 = .ok (.ifCond .ne 5, 3) := by decide +kernel
theorem dX5_isPriced_66 : decode cX5_isPriced 66 = .ok (.iconst 0, 1) := by decide +kernel
theorem dX5_isPriced_67 : decode cX5_isPriced 67 = .ok (.ireturn, 1) := by decide +kernel
theorem dX5_isPriced_68 : decode cX5_isPriced 68 = .ok (.aload_n 0, 1) := by decide +kernel
theorem dX5_isPriced_69 : decode cX5_isPriced 69 = .ok (.lload 4, 2) := by decide +kernel
theorem dX5_isPriced_71 : decode cX5_isPriced 71 = .ok (.lconst 0, 1) := by decide +kernel
theorem dX5_isPriced_72 : decode cX5_isPriced 72 = .ok (.lcmp, 1) := by decide +kernel
theorem dX5_isPriced_73 : decode cX5_isPriced 73 = .ok (.ifCond .ge 9, 3) := by decide +kernel
theorem dX5_isPriced_76 : decode cX5_isPriced 76 = .ok (.lload 4, 2) := by decide +kernel
theorem dX5_isPriced_78 : decode cX5_isPriced 78 = .ok (.lneg, 1) := by decide +kernel
theorem dX5_isPriced_79 : decode cX5_isPriced 79 = .ok (.goto 5, 3) := by decide +kernel
theorem dX5_isPriced_82 : decode cX5_isPriced 82 = .ok (.lload 4, 2) := by decide +kernel
theorem dX5_isPriced_84 : decode cX5_isPriced 84 = .ok (.putfield 156, 3) := by decide +kernel
theorem dX5_isPriced_87 : decode cX5_isPriced 87 = .ok (.aload_n 0, 1) := by decide +kernel
theorem dX5_isPriced_88 : decode cX5_isPriced 88 = .ok (.lconst 0, 1) := by decide +kernel
theorem dX5_isPriced_89 : decode cX5_isPriced 89 = .ok (.putfield 160, 3) := by decide +kernel
theorem dX5_isPriced_92 : decode cX5_isPriced 92 = .ok (.aload_n 0, 1) := by decide +kernel
theorem dX5_isPriced_93 : decode cX5_isPriced 93 = .ok (.lconst 0, 1) := by decide +kernel
theorem dX5_isPriced_94 : decode cX5_isPriced 94 = .ok (.putfield 163, 3) := by decide +kernel
theorem dX5_isPriced_97 : decode cX5_isPriced 97 = .ok (.iconst 0, 1) := by decide +kernel
theorem dX5_isPriced_98 : decode cX5_isPriced 98 = .ok (.istore 6, 2) := by decide +kernel
theorem dX5_isPriced_100 : decode cX5_isPriced 100 = .ok (.iload 6, 2) := by decide +kernel
theorem dX5_isPriced_102 : decode cX5_isPriced 102 = .ok (.iload_n 3, 1) := by decide +kernel
theorem dX5_isPriced_103 : decode cX5_isPriced 103 = .ok (.if_icmp .ge 97, 3) := by decide +kernel
theorem dX5_isPriced_106 : decode cX5_isPriced 106 = .ok (.aload_n 0, 1) := by decide +kernel
theorem dX5_isPriced_107 : decode cX5_isPriced 107 = .ok (.iload 6, 2) := by decide +kernel
theorem dX5_isPriced_109 : decode cX5_isPriced 109 = .ok (.invokevirtual 152, 3) := by decide +kernel
theorem dX5_isPriced_112 : decode cX5_isPriced 112 = .ok (.lstore 7, 2) := by decide +kernel
theorem dX5_isPriced_114 : decode cX5_isPriced 114 = .ok (.lload 4, 2) := by decide +kernel
theorem dX5_isPriced_116 : decode cX5_isPriced 116 = .ok (.lconst 0, 1) := by decide +kernel
theorem dX5_isPriced_117 : decode cX5_isPriced 117 = .ok (.lcmp, 1) := by decide +kernel
theorem dX5_isPriced_118 : decode cX5_isPriced 118 = .ok (.ifCond .ge 9, 3) := by decide +kernel
theorem dX5_isPriced_121 : decode cX5_isPriced 121 = .ok (.lload 7, 2) := by decide +kernel
theorem dX5_isPriced_123 : decode cX5_isPriced 123 = .ok (.lneg, 1) := by decide +kernel
theorem dX5_isPriced_124 : decode cX5_isPriced 124 = .ok (.goto 5, 3) := by decide +kernel
theorem dX5_isPriced_127 : decode cX5_isPriced 127 = .ok (.lload 7, 2) := by decide +kernel
theorem dX5_isPriced_129 : decode cX5_isPriced 129 = .ok (.lstore 7, 2) := by decide +kernel
theorem dX5_isPriced_131 : decode cX5_isPriced 131 = .ok (.lload 7, 2) := by decide +kernel
theorem dX5_isPriced_133 : decode cX5_isPriced 133 = .ok (.lconst 0, 1) := by decide +kernel
theorem dX5_isPriced_134 : decode cX5_isPriced 134 = .ok (.lcmp, 1) := by decide +kernel
theorem dX5_isPriced_135 : decode cX5_isPriced 135 = .ok (.ifCond .ge 5, 3) := by decide +kernel
theorem dX5_isPriced_138 : decode cX5_isPriced 138 = .ok (.iconst 0, 1) := by decide +kernel
theorem dX5_isPriced_139 : decode cX5_isPriced 139 = .ok (.ireturn, 1) := by decide +kernel
theorem dX5_isPriced_140 : decode cX5_isPriced 140 = .ok (.aload_n 0, 1) := by decide +kernel
theorem dX5_isPriced_141 : decode cX5_isPriced 141 = .ok (.dup, 1) := by decide +kernel
theorem dX5_isPriced_142 : decode cX5_isPriced 142 = .ok (.getfield 160, 3) := by decide +kernel
theorem dX5_isPriced_145 : decode cX5_isPriced 145 = .ok (.lload 7, 2) := by decide +kernel
theorem dX5_isPriced_147 : decode cX5_isPriced 147 = .ok (.aload_n 0, 1) := by decide +kernel
theorem dX5_isPriced_148 : decode cX5_isPriced 148 = .ok (.getfield 53, 3) := by decide +kernel
theorem dX5_isPriced_151 : decode cX5_isPriced 151 = .ok (.aload_n 0, 1) := by decide +kernel
theorem dX5_isPriced_152 : decode cX5_isPriced 152 = .ok (.getfield 59, 3) := by decide +kernel
theorem dX5_isPriced_155 : decode cX5_isPriced 155 = .ok (.iload 6, 2) := by decide +kernel
theorem dX5_isPriced_157 : decode cX5_isPriced 157 = .ok (.iaload, 1) := by decide +kernel
theorem dX5_isPriced_158 : decode cX5_isPriced 158 = .ok (.iaload, 1) := by decide +kernel
theorem dX5_isPriced_159 : decode cX5_isPriced 159 = .ok (.i2l, 1) := by decide +kernel
theorem dX5_isPriced_160 : decode cX5_isPriced 160 = .ok (.lmul, 1) := by decide +kernel
theorem dX5_isPriced_161 : decode cX5_isPriced 161 = .ok (.ladd, 1) := by decide +kernel
theorem dX5_isPriced_162 : decode cX5_isPriced 162 = .ok (.putfield 160, 3) := by decide +kernel
theorem dX5_isPriced_165 : decode cX5_isPriced 165 = .ok (.aload_n 0, 1) := by decide +kernel
theorem dX5_isPriced_166 : decode cX5_isPriced 166 = .ok (.aload_n 0, 1) := by decide +kernel
theorem dX5_isPriced_167 : decode cX5_isPriced 167 = .ok (.getfield 56, 3) := by decide +kernel
theorem dX5_isPriced_170 : decode cX5_isPriced 170 = .ok (.aload_n 0, 1) := by decide +kernel
theorem dX5_isPriced_171 : decode cX5_isPriced 171 = .ok (.getfield 59, 3) := by decide +kernel
theorem dX5_isPriced_174 : decode cX5_isPriced 174 = .ok (.iload 6, 2) := by decide +kernel
theorem dX5_isPriced_176 : decode cX5_isPriced 176 = .ok (.iaload, 1) := by decide +kernel
theorem dX5_isPriced_177 : decode cX5_isPriced 177 = .ok (.iaload, 1) := by decide +kernel
theorem dX5_isPriced_178 : decode cX5_isPriced 178 = .ok (.iload_n 2, 1) := by decide +kernel
theorem dX5_isPriced_179 : decode cX5_isPriced 179 = .ok (.if_icmp .ne 8, 3) := by decide +kernel
theorem dX5_isPriced_182 : decode cX5_isPriced 182 = .ok (.lload 7, 2) := by decide +kernel
theorem dX5_isPriced_184 : decode cX5_isPriced 184 = .ok (.goto 7, 3) := by decide +kernel
theorem dX5_isPriced_187 : decode cX5_isPriced 187 = .ok (.aload_n 0, 1) := by decide +kernel
theorem dX5_isPriced_188 : decode cX5_isPriced 188 = .ok (.getfield 163, 3) := by decide +kernel
theorem dX5_isPriced_191 : decode cX5_isPriced 191 = .ok (.putfield 163, 3) := by decide +kernel
theorem dX5_isPriced_194 : decode cX5_isPriced 194 = .ok (.iinc 6 1, 3) := by decide +kernel
theorem dX5_isPriced_197 : decode cX5_isPriced 197 = .ok (.goto (-97), 3) := by decide +kernel
theorem dX5_isPriced_200 : decode cX5_isPriced 200 = .ok (.iconst 1, 1) := by decide +kernel
theorem dX5_isPriced_201 : decode cX5_isPriced 201 = .ok (.ireturn, 1) := by decide +kernel
theorem dX5_shares_0 : decode cX5_shares 0 = .ok (.aload_n 0, 1) := by decide +kernel
theorem dX5_shares_1 : decode cX5_shares 1 = .ok (.invokevirtual 166, 3) := by decide +kernel
theorem dX5_shares_4 : decode cX5_shares 4 = .ok (.aload_n 0, 1) := by decide +kernel
theorem dX5_shares_5 : decode cX5_shares 5 = .ok (.lconst 0, 1) := by decide +kernel
theorem dX5_shares_6 : decode cX5_shares 6 = .ok (.putfield 169, 3) := by decide +kernel
theorem dX5_shares_9 : decode cX5_shares 9 = .ok (.iconst 0, 1) := by decide +kernel
theorem dX5_shares_10 : decode cX5_shares 10 = .ok (.istore_n 2, 1) := by decide +kernel
theorem dX5_shares_11 : decode cX5_shares 11 = .ok (.iload_n 2, 1) := by decide +kernel
theorem dX5_shares_12 : decode cX5_shares 12 = .ok (.iconst 1, 1) := by decide +kernel
theorem dX5_shares_13 : decode cX5_shares 13 = .ok (.aload_n 0, 1) := by decide +kernel
theorem dX5_shares_14 : decode cX5_shares 14 = .ok (.getfield 146, 3) := by decide +kernel
theorem dX5_shares_17 : decode cX5_shares 17 = .ok (.ishl, 1) := by decide +kernel
theorem dX5_shares_18 : decode cX5_shares 18 = .ok (.if_icmp .ge 108, 3) := by decide +kernel
theorem dX5_shares_21 : decode cX5_shares 21 = .ok (.aload_n 0, 1) := by decide +kernel
theorem dX5_shares_22 : decode cX5_shares 22 = .ok (.iload_n 2, 1) := by decide +kernel
theorem dX5_shares_23 : decode cX5_shares 23 = .ok (.iload_n 1, 1) := by decide +kernel
theorem dX5_shares_24 : decode cX5_shares 24 = .ok (.invokevirtual 172, 3) := by decide +kernel
theorem dX5_shares_27 : decode cX5_shares 27 = .ok (.ifCond .ne 6, 3) := by decide +kernel
theorem dX5_shares_30 : decode cX5_shares 30 = .ok (.goto 90, 3) := by decide +kernel
theorem dX5_shares_33 : decode cX5_shares 33 = .ok (.aload_n 0, 1) := by decide +kernel
theorem dX5_shares_34 : decode cX5_shares 34 = .ok (.getfield 160, 3) := by decide +kernel
theorem dX5_shares_37 : decode cX5_shares 37 = .ok (.aload_n 0, 1) := by decide +kernel
theorem dX5_shares_38 : decode cX5_shares 38 = .ok (.getfield 169, 3) := by decide +kernel
theorem dX5_shares_41 : decode cX5_shares 41 = .ok (.lmul, 1) := by decide +kernel
theorem dX5_shares_42 : decode cX5_shares 42 = .ok (.aload_n 0, 1) := by decide +kernel
theorem dX5_shares_43 : decode cX5_shares 43 = .ok (.getfield 176, 3) := by decide +kernel
theorem dX5_shares_46 : decode cX5_shares 46 = .ok (.aload_n 0, 1) := by decide +kernel
theorem dX5_shares_47 : decode cX5_shares 47 = .ok (.getfield 156, 3) := by decide +kernel
theorem dX5_shares_50 : decode cX5_shares 50 = .ok (.lmul, 1) := by decide +kernel
theorem dX5_shares_51 : decode cX5_shares 51 = .ok (.lsub, 1) := by decide +kernel
theorem dX5_shares_52 : decode cX5_shares 52 = .ok (.lstore_n 3, 1) := by decide +kernel
theorem dX5_shares_53 : decode cX5_shares 53 = .ok (.aload_n 0, 1) := by decide +kernel
theorem dX5_shares_54 : decode cX5_shares 54 = .ok (.getfield 169, 3) := by decide +kernel
theorem dX5_shares_57 : decode cX5_shares 57 = .ok (.lconst 0, 1) := by decide +kernel
theorem dX5_shares_58 : decode cX5_shares 58 = .ok (.lcmp, 1) := by decide +kernel
theorem dX5_shares_59 : decode cX5_shares 59 = .ok (.ifCond .eq 37, 3) := by decide +kernel
theorem dX5_shares_62 : decode cX5_shares 62 = .ok (.lload_n 3, 1) := by decide +kernel
theorem dX5_shares_63 : decode cX5_shares 63 = .ok (.lconst 0, 1) := by decide +kernel
theorem dX5_shares_64 : decode cX5_shares 64 = .ok (.lcmp, 1) := by decide +kernel
theorem dX5_shares_65 : decode cX5_shares 65 = .ok (.ifCond .lt 31, 3) := by decide +kernel
theorem dX5_shares_68 : decode cX5_shares 68 = .ok (.lload_n 3, 1) := by decide +kernel
theorem dX5_shares_69 : decode cX5_shares 69 = .ok (.lconst 0, 1) := by decide +kernel
theorem dX5_shares_70 : decode cX5_shares 70 = .ok (.lcmp, 1) := by decide +kernel
theorem dX5_shares_71 : decode cX5_shares 71 = .ok (.ifCond .ne 49, 3) := by decide +kernel
theorem dX5_shares_74 : decode cX5_shares 74 = .ok (.aload_n 0, 1) := by decide +kernel
theorem dX5_shares_75 : decode cX5_shares 75 = .ok (.getfield 163, 3) := by decide +kernel
theorem dX5_shares_78 : decode cX5_shares 78 = .ok (.aload_n 0, 1) := by decide +kernel
theorem dX5_shares_79 : decode cX5_shares 79 = .ok (.getfield 169, 3) := by decide +kernel
theorem dX5_shares_82 : decode cX5_shares 82 = .ok (.lmul, 1) := by decide +kernel
theorem dX5_shares_83 : decode cX5_shares 83 = .ok (.aload_n 0, 1) := by decide +kernel
theorem dX5_shares_84 : decode cX5_shares 84 = .ok (.getfield 179, 3) := by decide +kernel
theorem dX5_shares_87 : decode cX5_shares 87 = .ok (.aload_n 0, 1) := by decide +kernel
theorem dX5_shares_88 : decode cX5_shares 88 = .ok (.getfield 156, 3) := by decide +kernel
theorem dX5_shares_91 : decode cX5_shares 91 = .ok (.lmul, 1) := by decide +kernel
theorem dX5_shares_92 : decode cX5_shares 92 = .ok (.lcmp, 1) := by decide +kernel
theorem dX5_shares_93 : decode cX5_shares 93 = .ok (.ifCond .ge 27, 3) := by decide +kernel
theorem dX5_shares_96 : decode cX5_shares 96 = .ok (.aload_n 0, 1) := by decide +kernel
theorem dX5_shares_97 : decode cX5_shares 97 = .ok (.aload_n 0, 1) := by decide +kernel
theorem dX5_shares_98 : decode cX5_shares 98 = .ok (.getfield 160, 3) := by decide +kernel
theorem dX5_shares_101 : decode cX5_shares 101 = .ok (.putfield 176, 3) := by decide +kernel
theorem dX5_shares_104 : decode cX5_shares 104 = .ok (.aload_n 0, 1) := by decide +kernel
theorem dX5_shares_105 : decode cX5_shares 105 = .ok (.aload_n 0, 1) := by decide +kernel
theorem dX5_shares_106 : decode cX5_shares 106 = .ok (.getfield 163, 3) := by decide +kernel
theorem dX5_shares_109 : decode cX5_shares 109 = .ok (.putfield 179, 3) := by decide +kernel
theorem dX5_shares_112 : decode cX5_shares 112 = .ok (.aload_n 0, 1) := by decide +kernel
theorem dX5_shares_113 : decode cX5_shares 113 = .ok (.aload_n 0, 1) := by decide +kernel
theorem dX5_shares_114 : decode cX5_shares 114 = .ok (.getfield 156, 3) := by decide +kernel
theorem dX5_shares_117 : decode cX5_shares 117 = .ok (.putfield 169, 3) := by decide +kernel
theorem dX5_shares_120 : decode cX5_shares 120 = .ok (.iinc 2 1, 3) := by decide +kernel
theorem dX5_shares_123 : decode cX5_shares 123 = .ok (.goto (-112), 3) := by decide +kernel
theorem dX5_shares_126 : decode cX5_shares 126 = .ok (.return_, 1) := by decide +kernel
theorem dX5_part_0 : decode cX5_part 0 = .ok (.lload_n 0, 1) := by decide +kernel
theorem dX5_part_1 : decode cX5_part 1 = .ok (.lstore 5, 2) := by decide +kernel
theorem dX5_part_3 : decode cX5_part 3 = .ok (.lload_n 2, 1) := by decide +kernel
theorem dX5_part_4 : decode cX5_part 4 = .ok (.lstore 7, 2) := by decide +kernel
theorem dX5_part_6 : decode cX5_part 6 = .ok (.lload 7, 2) := by decide +kernel
theorem dX5_part_8 : decode cX5_part 8 = .ok (.lconst 0, 1) := by decide +kernel
theorem dX5_part_9 : decode cX5_part 9 = .ok (.lcmp, 1) := by decide +kernel
theorem dX5_part_10 : decode cX5_part 10 = .ok (.ifCond .eq 21, 3) := by decide +kernel
theorem dX5_part_13 : decode cX5_part 13 = .ok (.lload 5, 2) := by decide +kernel
theorem dX5_part_15 : decode cX5_part 15 = .ok (.lload 7, 2) := by decide +kernel
theorem dX5_part_17 : decode cX5_part 17 = .ok (.lrem, 1) := by decide +kernel
theorem dX5_part_18 : decode cX5_part 18 = .ok (.lstore 9, 2) := by decide +kernel
theorem dX5_part_20 : decode cX5_part 20 = .ok (.lload 7, 2) := by decide +kernel
theorem dX5_part_22 : decode cX5_part 22 = .ok (.lstore 5, 2) := by decide +kernel
theorem dX5_part_24 : decode cX5_part 24 = .ok (.lload 9, 2) := by decide +kernel
theorem dX5_part_26 : decode cX5_part 26 = .ok (.lstore 7, 2) := by decide +kernel
theorem dX5_part_28 : decode cX5_part 28 = .ok (.goto (-22), 3) := by decide +kernel
theorem dX5_part_31 : decode cX5_part 31 = .ok (.iload 4, 2) := by decide +kernel
theorem dX5_part_33 : decode cX5_part 33 = .ok (.ifCond .eq 10, 3) := by decide +kernel
theorem dX5_part_36 : decode cX5_part 36 = .ok (.lload_n 2, 1) := by decide +kernel
theorem dX5_part_37 : decode cX5_part 37 = .ok (.lload 5, 2) := by decide +kernel
theorem dX5_part_39 : decode cX5_part 39 = .ok (.ldiv, 1) := by decide +kernel
theorem dX5_part_40 : decode cX5_part 40 = .ok (.goto 7, 3) := by decide +kernel
theorem dX5_part_43 : decode cX5_part 43 = .ok (.lload_n 0, 1) := by decide +kernel
theorem dX5_part_44 : decode cX5_part 44 = .ok (.lload 5, 2) := by decide +kernel
theorem dX5_part_46 : decode cX5_part 46 = .ok (.ldiv, 1) := by decide +kernel
theorem dX5_part_47 : decode cX5_part 47 = .ok (.lreturn, 1) := by decide +kernel
theorem dX5_share_0 : decode cX5_share 0 = .ok (.aload_n 0, 1) := by decide +kernel
theorem dX5_share_1 : decode cX5_share 1 = .ok (.ldc 106, 2) := by decide +kernel
theorem dX5_share_3 : decode cX5_share 3 = .ok (.invokevirtual 182, 3) := by decide +kernel
theorem dX5_share_6 : decode cX5_share 6 = .ok (.aload_n 0, 1) := by decide +kernel
theorem dX5_share_7 : decode cX5_share 7 = .ok (.getfield 176, 3) := by decide +kernel
theorem dX5_share_10 : decode cX5_share 10 = .ok (.aload_n 0, 1) := by decide +kernel
theorem dX5_share_11 : decode cX5_share 11 = .ok (.getfield 169, 3) := by decide +kernel
theorem dX5_share_14 : decode cX5_share 14 = .ok (.iload_n 1, 1) := by decide +kernel
theorem dX5_share_15 : decode cX5_share 15 = .ok (.invokestatic 186, 3) := by decide +kernel
theorem dX5_share_18 : decode cX5_share 18 = .ok (.lreturn, 1) := by decide +kernel
theorem dX5_isPrice_0 : decode cX5_isPrice 0 = .ok (.aload_n 0, 1) := by decide +kernel
theorem dX5_isPrice_1 : decode cX5_isPrice 1 = .ok (.iload_n 1, 1) := by decide +kernel
theorem dX5_isPrice_2 : decode cX5_isPrice 2 = .ok (.invokevirtual 97, 3) := by decide +kernel
theorem dX5_isPrice_5 : decode cX5_isPrice 5 = .ok (.ifCond .eq 17, 3) := by decide +kernel
theorem dX5_isPrice_8 : decode cX5_isPrice 8 = .ok (.aload_n 0, 1) := by decide +kernel
theorem dX5_isPrice_9 : decode cX5_isPrice 9 = .ok (.getfield 16, 3) := by decide +kernel
theorem dX5_isPrice_12 : decode cX5_isPrice 12 = .ok (.iload_n 1, 1) := by decide +kernel
theorem dX5_isPrice_13 : decode cX5_isPrice 13 = .ok (.iaload, 1) := by decide +kernel
theorem dX5_isPrice_14 : decode cX5_isPrice 14 = .ok (.iconst 2, 1) := by decide +kernel
theorem dX5_isPrice_15 : decode cX5_isPrice 15 = .ok (.if_icmp .eq 7, 3) := by decide +kernel
theorem dX5_isPrice_18 : decode cX5_isPrice 18 = .ok (.iconst 1, 1) := by decide +kernel
theorem dX5_isPrice_19 : decode cX5_isPrice 19 = .ok (.goto 4, 3) := by decide +kernel
theorem dX5_isPrice_22 : decode cX5_isPrice 22 = .ok (.iconst 0, 1) := by decide +kernel
theorem dX5_isPrice_23 : decode cX5_isPrice 23 = .ok (.ireturn, 1) := by decide +kernel
theorem dX5_sharePrice_0 : decode cX5_sharePrice 0 = .ok (.aload_n 0, 1) := by decide +kernel
theorem dX5_sharePrice_1 : decode cX5_sharePrice 1 = .ok (.iload_n 1, 1) := by decide +kernel
theorem dX5_sharePrice_2 : decode cX5_sharePrice 2 = .ok (.invokevirtual 190, 3) := by decide +kernel
theorem dX5_sharePrice_5 : decode cX5_sharePrice 5 = .ok (.ifCond .ne 7, 3) := by decide +kernel
theorem dX5_sharePrice_8 : decode cX5_sharePrice 8 = .ok (.ldc2_w 193, 3) := by decide +kernel
theorem dX5_sharePrice_11 : decode cX5_sharePrice 11 = .ok (.lreturn, 1) := by decide +kernel
theorem dX5_sharePrice_12 : decode cX5_sharePrice 12 = .ok (.aload_n 0, 1) := by decide +kernel
theorem dX5_sharePrice_13 : decode cX5_sharePrice 13 = .ok (.iload_n 1, 1) := by decide +kernel
theorem dX5_sharePrice_14 : decode cX5_sharePrice 14 = .ok (.invokevirtual 182, 3) := by decide +kernel
theorem dX5_sharePrice_17 : decode cX5_sharePrice 17 = .ok (.aload_n 0, 1) := by decide +kernel
theorem dX5_sharePrice_18 : decode cX5_sharePrice 18 = .ok (.getfield 179, 3) := by decide +kernel
theorem dX5_sharePrice_21 : decode cX5_sharePrice 21 = .ok (.aload_n 0, 1) := by decide +kernel
theorem dX5_sharePrice_22 : decode cX5_sharePrice 22 = .ok (.getfield 169, 3) := by decide +kernel
theorem dX5_sharePrice_25 : decode cX5_sharePrice 25 = .ok (.iload_n 2, 1) := by decide +kernel
theorem dX5_sharePrice_26 : decode cX5_sharePrice 26 = .ok (.invokestatic 186, 3) := by decide +kernel
theorem dX5_sharePrice_29 : decode cX5_sharePrice 29 = .ok (.lreturn, 1) := by decide +kernel
theorem dX5_holds_0 : decode cX5_holds 0 = .ok (.aload_n 0, 1) := by decide +kernel
theorem dX5_holds_1 : decode cX5_holds 1 = .ok (.iload_n 1, 1) := by decide +kernel
theorem dX5_holds_2 : decode cX5_holds 2 = .ok (.invokevirtual 190, 3) := by decide +kernel
theorem dX5_holds_5 : decode cX5_holds 5 = .ok (.ifCond .ne 6, 3) := by decide +kernel
theorem dX5_holds_8 : decode cX5_holds 8 = .ok (.ldc 85, 2) := by decide +kernel
theorem dX5_holds_10 : decode cX5_holds 10 = .ok (.ireturn, 1) := by decide +kernel
theorem dX5_holds_11 : decode cX5_holds 11 = .ok (.aload_n 0, 1) := by decide +kernel
theorem dX5_holds_12 : decode cX5_holds 12 = .ok (.iload_n 1, 1) := by decide +kernel
theorem dX5_holds_13 : decode cX5_holds 13 = .ok (.invokevirtual 182, 3) := by decide +kernel
theorem dX5_holds_16 : decode cX5_holds 16 = .ok (.ldc2_w 195, 3) := by decide +kernel
theorem dX5_holds_19 : decode cX5_holds 19 = .ok (.lstore_n 2, 1) := by decide +kernel
theorem dX5_holds_20 : decode cX5_holds 20 = .ok (.iconst 0, 1) := by decide +kernel
theorem dX5_holds_21 : decode cX5_holds 21 = .ok (.istore 4, 2) := by decide +kernel
theorem dX5_holds_23 : decode cX5_holds 23 = .ok (.iload 4, 2) := by decide +kernel
theorem dX5_holds_25 : decode cX5_holds 25 = .ok (.iconst 1, 1) := by decide +kernel
theorem dX5_holds_26 : decode cX5_holds 26 = .ok (.aload_n 0, 1) := by decide +kernel
theorem dX5_holds_27 : decode cX5_holds 27 = .ok (.getfield 146, 3) := by decide +kernel
theorem dX5_holds_30 : decode cX5_holds 30 = .ok (.ishl, 1) := by decide +kernel
theorem dX5_holds_31 : decode cX5_holds 31 = .ok (.if_icmp .ge 96, 3) := by decide +kernel
theorem dX5_holds_34 : decode cX5_holds 34 = .ok (.aload_n 0, 1) := by decide +kernel
theorem dX5_holds_35 : decode cX5_holds 35 = .ok (.iload 4, 2) := by decide +kernel
theorem dX5_holds_37 : decode cX5_holds 37 = .ok (.iload_n 1, 1) := by decide +kernel
theorem dX5_holds_38 : decode cX5_holds 38 = .ok (.invokevirtual 172, 3) := by decide +kernel
theorem dX5_holds_41 : decode cX5_holds 41 = .ok (.ifCond .eq 80, 3) := by decide +kernel
theorem dX5_holds_44 : decode cX5_holds 44 = .ok (.aload_n 0, 1) := by decide +kernel
theorem dX5_holds_45 : decode cX5_holds 45 = .ok (.getfield 163, 3) := by decide +kernel
theorem dX5_holds_48 : decode cX5_holds 48 = .ok (.aload_n 0, 1) := by decide +kernel
theorem dX5_holds_49 : decode cX5_holds 49 = .ok (.getfield 169, 3) := by decide +kernel
theorem dX5_holds_52 : decode cX5_holds 52 = .ok (.lmul, 1) := by decide +kernel
theorem dX5_holds_53 : decode cX5_holds 53 = .ok (.aload_n 0, 1) := by decide +kernel
theorem dX5_holds_54 : decode cX5_holds 54 = .ok (.getfield 179, 3) := by decide +kernel
theorem dX5_holds_57 : decode cX5_holds 57 = .ok (.aload_n 0, 1) := by decide +kernel
theorem dX5_holds_58 : decode cX5_holds 58 = .ok (.getfield 156, 3) := by decide +kernel
theorem dX5_holds_61 : decode cX5_holds 61 = .ok (.lmul, 1) := by decide +kernel
theorem dX5_holds_62 : decode cX5_holds 62 = .ok (.lcmp, 1) := by decide +kernel
theorem dX5_holds_63 : decode cX5_holds 63 = .ok (.ifCond .ge 58, 3) := by decide +kernel
theorem dX5_holds_66 : decode cX5_holds 66 = .ok (.aload_n 0, 1) := by decide +kernel
theorem dX5_holds_67 : decode cX5_holds 67 = .ok (.getfield 160, 3) := by decide +kernel
theorem dX5_holds_70 : decode cX5_holds 70 = .ok (.aload_n 0, 1) := by decide +kernel
theorem dX5_holds_71 : decode cX5_holds 71 = .ok (.getfield 169, 3) := by decide +kernel
theorem dX5_holds_74 : decode cX5_holds 74 = .ok (.lmul, 1) := by decide +kernel
theorem dX5_holds_75 : decode cX5_holds 75 = .ok (.aload_n 0, 1) := by decide +kernel
theorem dX5_holds_76 : decode cX5_holds 76 = .ok (.getfield 176, 3) := by decide +kernel
theorem dX5_holds_79 : decode cX5_holds 79 = .ok (.aload_n 0, 1) := by decide +kernel
theorem dX5_holds_80 : decode cX5_holds 80 = .ok (.getfield 156, 3) := by decide +kernel
theorem dX5_holds_83 : decode cX5_holds 83 = .ok (.lmul, 1) := by decide +kernel
theorem dX5_holds_84 : decode cX5_holds 84 = .ok (.lsub, 1) := by decide +kernel
theorem dX5_holds_85 : decode cX5_holds 85 = .ok (.aload_n 0, 1) := by decide +kernel
theorem dX5_holds_86 : decode cX5_holds 86 = .ok (.getfield 179, 3) := by decide +kernel
theorem dX5_holds_89 : decode cX5_holds 89 = .ok (.aload_n 0, 1) := by decide +kernel
theorem dX5_holds_90 : decode cX5_holds 90 = .ok (.getfield 156, 3) := by decide +kernel
theorem dX5_holds_93 : decode cX5_holds 93 = .ok (.lmul, 1) := by decide +kernel
theorem dX5_holds_94 : decode cX5_holds 94 = .ok (.aload_n 0, 1) := by decide +kernel
theorem dX5_holds_95 : decode cX5_holds 95 = .ok (.getfield 163, 3) := by decide +kernel
theorem dX5_holds_98 : decode cX5_holds 98 = .ok (.aload_n 0, 1) := by decide +kernel
theorem dX5_holds_99 : decode cX5_holds 99 = .ok (.getfield 169, 3) := by decide +kernel
theorem dX5_holds_102 : decode cX5_holds 102 = .ok (.lmul, 1) := by decide +kernel
theorem dX5_holds_103 : decode cX5_holds 103 = .ok (.lsub, 1) := by decide +kernel
theorem dX5_holds_104 : decode cX5_holds 104 = .ok (.ldiv, 1) := by decide +kernel
theorem dX5_holds_105 : decode cX5_holds 105 = .ok (.lstore 5, 2) := by decide +kernel
theorem dX5_holds_107 : decode cX5_holds 107 = .ok (.lload 5, 2) := by decide +kernel
theorem dX5_holds_109 : decode cX5_holds 109 = .ok (.lload_n 2, 1) := by decide +kernel
theorem dX5_holds_110 : decode cX5_holds 110 = .ok (.lcmp, 1) := by decide +kernel
theorem dX5_holds_111 : decode cX5_holds 111 = .ok (.ifCond .ge 8, 3) := by decide +kernel
theorem dX5_holds_114 : decode cX5_holds 114 = .ok (.lload 5, 2) := by decide +kernel
theorem dX5_holds_116 : decode cX5_holds 116 = .ok (.goto 4, 3) := by decide +kernel
theorem dX5_holds_119 : decode cX5_holds 119 = .ok (.lload_n 2, 1) := by decide +kernel
theorem dX5_holds_120 : decode cX5_holds 120 = .ok (.lstore_n 2, 1) := by decide +kernel
theorem dX5_holds_121 : decode cX5_holds 121 = .ok (.iinc 4 1, 3) := by decide +kernel
theorem dX5_holds_124 : decode cX5_holds 124 = .ok (.goto (-101), 3) := by decide +kernel
theorem dX5_holds_127 : decode cX5_holds 127 = .ok (.lload_n 2, 1) := by decide +kernel
theorem dX5_holds_128 : decode cX5_holds 128 = .ok (.l2i, 1) := by decide +kernel
theorem dX5_holds_129 : decode cX5_holds 129 = .ok (.ireturn, 1) := by decide +kernel
theorem dX5_gap_0 : decode cX5_gap 0 = .ok (.aload_n 0, 1) := by decide +kernel
theorem dX5_gap_1 : decode cX5_gap 1 = .ok (.ldc 106, 2) := by decide +kernel
theorem dX5_gap_3 : decode cX5_gap 3 = .ok (.invokevirtual 182, 3) := by decide +kernel
theorem dX5_gap_6 : decode cX5_gap 6 = .ok (.aload_n 0, 1) := by decide +kernel
theorem dX5_gap_7 : decode cX5_gap 7 = .ok (.getfield 176, 3) := by decide +kernel
theorem dX5_gap_10 : decode cX5_gap 10 = .ok (.aload_n 0, 1) := by decide +kernel
theorem dX5_gap_11 : decode cX5_gap 11 = .ok (.invokevirtual 134, 3) := by decide +kernel
theorem dX5_gap_14 : decode cX5_gap 14 = .ok (.i2l, 1) := by decide +kernel
theorem dX5_gap_15 : decode cX5_gap 15 = .ok (.aload_n 0, 1) := by decide +kernel
theorem dX5_gap_16 : decode cX5_gap 16 = .ok (.getfield 169, 3) := by decide +kernel
theorem dX5_gap_19 : decode cX5_gap 19 = .ok (.lmul, 1) := by decide +kernel
theorem dX5_gap_20 : decode cX5_gap 20 = .ok (.lsub, 1) := by decide +kernel
theorem dX5_gap_21 : decode cX5_gap 21 = .ok (.aload_n 0, 1) := by decide +kernel
theorem dX5_gap_22 : decode cX5_gap 22 = .ok (.getfield 169, 3) := by decide +kernel
theorem dX5_gap_25 : decode cX5_gap 25 = .ok (.iload_n 1, 1) := by decide +kernel
theorem dX5_gap_26 : decode cX5_gap 26 = .ok (.invokestatic 186, 3) := by decide +kernel
theorem dX5_gap_29 : decode cX5_gap 29 = .ok (.lreturn, 1) := by decide +kernel
theorem dX5_told_0 : decode cX5_told 0 = .ok (.iconst 0, 1) := by decide +kernel
theorem dX5_told_1 : decode cX5_told 1 = .ok (.istore_n 2, 1) := by decide +kernel
theorem dX5_told_2 : decode cX5_told 2 = .ok (.iconst 0, 1) := by decide +kernel
theorem dX5_told_3 : decode cX5_told 3 = .ok (.istore_n 3, 1) := by decide +kernel
theorem dX5_told_4 : decode cX5_told 4 = .ok (.iload_n 3, 1) := by decide +kernel
theorem dX5_told_5 : decode cX5_told 5 = .ok (.aload_n 0, 1) := by decide +kernel
theorem dX5_told_6 : decode cX5_told 6 = .ok (.getfield 74, 3) := by decide +kernel
theorem dX5_told_9 : decode cX5_told 9 = .ok (.if_icmp .ge 26, 3) := by decide +kernel
theorem dX5_told_12 : decode cX5_told 12 = .ok (.iload_n 2, 1) := by decide +kernel
theorem dX5_told_13 : decode cX5_told 13 = .ok (.aload_n 0, 1) := by decide +kernel
theorem dX5_told_14 : decode cX5_told 14 = .ok (.getfield 28, 3) := by decide +kernel
theorem dX5_told_17 : decode cX5_told 17 = .ok (.iload_n 3, 1) := by decide +kernel
theorem dX5_told_18 : decode cX5_told 18 = .ok (.baload, 1) := by decide +kernel
theorem dX5_told_19 : decode cX5_told 19 = .ok (.ifCond .eq 7, 3) := by decide +kernel
theorem dX5_told_22 : decode cX5_told 22 = .ok (.iconst 1, 1) := by decide +kernel
theorem dX5_told_23 : decode cX5_told 23 = .ok (.goto 4, 3) := by decide +kernel
theorem dX5_told_26 : decode cX5_told 26 = .ok (.iconst 0, 1) := by decide +kernel
theorem dX5_told_27 : decode cX5_told 27 = .ok (.iadd, 1) := by decide +kernel
theorem dX5_told_28 : decode cX5_told 28 = .ok (.istore_n 2, 1) := by decide +kernel
theorem dX5_told_29 : decode cX5_told 29 = .ok (.iinc 3 1, 3) := by decide +kernel
theorem dX5_told_32 : decode cX5_told 32 = .ok (.goto (-28), 3) := by decide +kernel
theorem dX5_told_35 : decode cX5_told 35 = .ok (.iload_n 1, 1) := by decide +kernel
theorem dX5_told_36 : decode cX5_told 36 = .ok (.i2l, 1) := by decide +kernel
theorem dX5_told_37 : decode cX5_told 37 = .ok (.lconst 0, 1) := by decide +kernel
theorem dX5_told_38 : decode cX5_told 38 = .ok (.ldc2_w 87, 3) := by decide +kernel
theorem dX5_told_41 : decode cX5_told 41 = .ok (.invokestatic 70, 3) := by decide +kernel
theorem dX5_told_44 : decode cX5_told 44 = .ok (.ifCond .eq 28, 3) := by decide +kernel
theorem dX5_told_47 : decode cX5_told 47 = .ok (.iload_n 1, 1) := by decide +kernel
theorem dX5_told_48 : decode cX5_told 48 = .ok (.ifCond .ne 10, 3) := by decide +kernel
theorem dX5_told_51 : decode cX5_told 51 = .ok (.aload_n 0, 1) := by decide +kernel
theorem dX5_told_52 : decode cX5_told 52 = .ok (.getfield 66, 3) := by decide +kernel
theorem dX5_told_55 : decode cX5_told 55 = .ok (.goto 16, 3) := by decide +kernel
theorem dX5_told_58 : decode cX5_told 58 = .ok (.iload_n 1, 1) := by decide +kernel
theorem dX5_told_59 : decode cX5_told 59 = .ok (.iconst 1, 1) := by decide +kernel
theorem dX5_told_60 : decode cX5_told 60 = .ok (.if_icmp .ne 10, 3) := by decide +kernel
theorem dX5_told_63 : decode cX5_told 63 = .ok (.aload_n 0, 1) := by decide +kernel
theorem dX5_told_64 : decode cX5_told 64 = .ok (.getfield 74, 3) := by decide +kernel
theorem dX5_told_67 : decode cX5_told 67 = .ok (.goto 4, 3) := by decide +kernel
theorem dX5_told_70 : decode cX5_told 70 = .ok (.iload_n 2, 1) := by decide +kernel
theorem dX5_told_71 : decode cX5_told 71 = .ok (.ireturn, 1) := by decide +kernel
theorem dX5_told_72 : decode cX5_told 72 = .ok (.iload_n 1, 1) := by decide +kernel
theorem dX5_told_73 : decode cX5_told 73 = .ok (.bipush 10, 2) := by decide +kernel
theorem dX5_told_75 : decode cX5_told 75 = .ok (.irem, 1) := by decide +kernel
theorem dX5_told_76 : decode cX5_told 76 = .ok (.istore_n 3, 1) := by decide +kernel
theorem dX5_told_77 : decode cX5_told 77 = .ok (.iload_n 1, 1) := by decide +kernel
theorem dX5_told_78 : decode cX5_told 78 = .ok (.i2l, 1) := by decide +kernel
theorem dX5_told_79 : decode cX5_told 79 = .ok (.ldc2_w 197, 3) := by decide +kernel
theorem dX5_told_82 : decode cX5_told 82 = .ok (.ldc2_w 199, 3) := by decide +kernel
theorem dX5_told_85 : decode cX5_told 85 = .ok (.invokestatic 70, 3) := by decide +kernel
theorem dX5_told_88 : decode cX5_told 88 = .ok (.ifCond .eq 33, 3) := by decide +kernel
theorem dX5_told_91 : decode cX5_told 91 = .ok (.aload_n 0, 1) := by decide +kernel
theorem dX5_told_92 : decode cX5_told 92 = .ok (.iload_n 3, 1) := by decide +kernel
theorem dX5_told_93 : decode cX5_told 93 = .ok (.invokevirtual 97, 3) := by decide +kernel
theorem dX5_told_96 : decode cX5_told 96 = .ok (.ifCond .eq 25, 3) := by decide +kernel
theorem dX5_told_99 : decode cX5_told 99 = .ok (.iload_n 1, 1) := by decide +kernel
theorem dX5_told_100 : decode cX5_told 100 = .ok (.bipush 20, 2) := by decide +kernel
theorem dX5_told_102 : decode cX5_told 102 = .ok (.if_icmp .ge 12, 3) := by decide +kernel
theorem dX5_told_105 : decode cX5_told 105 = .ok (.aload_n 0, 1) := by decide +kernel
theorem dX5_told_106 : decode cX5_told 106 = .ok (.getfield 16, 3) := by decide +kernel
theorem dX5_told_109 : decode cX5_told 109 = .ok (.iload_n 3, 1) := by decide +kernel
theorem dX5_told_110 : decode cX5_told 110 = .ok (.iaload, 1) := by decide +kernel
theorem dX5_told_111 : decode cX5_told 111 = .ok (.goto 9, 3) := by decide +kernel
theorem dX5_told_114 : decode cX5_told 114 = .ok (.aload_n 0, 1) := by decide +kernel
theorem dX5_told_115 : decode cX5_told 115 = .ok (.getfield 25, 3) := by decide +kernel
theorem dX5_told_118 : decode cX5_told 118 = .ok (.iload_n 3, 1) := by decide +kernel
theorem dX5_told_119 : decode cX5_told 119 = .ok (.iaload, 1) := by decide +kernel
theorem dX5_told_120 : decode cX5_told 120 = .ok (.ireturn, 1) := by decide +kernel
theorem dX5_told_121 : decode cX5_told 121 = .ok (.iload_n 1, 1) := by decide +kernel
theorem dX5_told_122 : decode cX5_told 122 = .ok (.i2l, 1) := by decide +kernel
theorem dX5_told_123 : decode cX5_told 123 = .ok (.ldc2_w 201, 3) := by decide +kernel
theorem dX5_told_126 : decode cX5_told 126 = .ok (.ldc2_w 203, 3) := by decide +kernel
theorem dX5_told_129 : decode cX5_told 129 = .ok (.invokestatic 70, 3) := by decide +kernel
theorem dX5_told_132 : decode cX5_told 132 = .ok (.ifCond .eq 35, 3) := by decide +kernel
theorem dX5_told_135 : decode cX5_told 135 = .ok (.aload_n 0, 1) := by decide +kernel
theorem dX5_told_136 : decode cX5_told 136 = .ok (.iload_n 3, 1) := by decide +kernel
theorem dX5_told_137 : decode cX5_told 137 = .ok (.invokevirtual 93, 3) := by decide +kernel
theorem dX5_told_140 : decode cX5_told 140 = .ok (.ifCond .eq 27, 3) := by decide +kernel
theorem dX5_told_143 : decode cX5_told 143 = .ok (.iload_n 1, 1) := by decide +kernel
theorem dX5_told_144 : decode cX5_told 144 = .ok (.bipush 40, 2) := by decide +kernel
theorem dX5_told_146 : decode cX5_told 146 = .ok (.if_icmp .ge 12, 3) := by decide +kernel
theorem dX5_told_149 : decode cX5_told 149 = .ok (.aload_n 0, 1) := by decide +kernel
theorem dX5_told_150 : decode cX5_told 150 = .ok (.getfield 7, 3) := by decide +kernel
theorem dX5_told_153 : decode cX5_told 153 = .ok (.iload_n 3, 1) := by decide +kernel
theorem dX5_told_154 : decode cX5_told 154 = .ok (.iaload, 1) := by decide +kernel
theorem dX5_told_155 : decode cX5_told 155 = .ok (.goto 14, 3) := by decide +kernel
theorem dX5_told_158 : decode cX5_told 158 = .ok (.aload_n 0, 1) := by decide +kernel
theorem dX5_told_159 : decode cX5_told 159 = .ok (.getfield 13, 3) := by decide +kernel
theorem dX5_told_162 : decode cX5_told 162 = .ok (.iload_n 3, 1) := by decide +kernel
theorem dX5_told_163 : decode cX5_told 163 = .ok (.iaload, 1) := by decide +kernel
end
section
theorem dX5_told_164 : decode cX5_told 164 = .ok (.goto 5, 3) := by decide +kernel
theorem dX5_told_167 : decode cX5_told 167 = .ok (.ldc 85, 2) := by decide +kernel
theorem dX5_told_169 : decode cX5_told 169 = .ok (.ireturn, 1) := by decide +kernel
theorem dJ6_bitCount_0f7a4_0 : decode cJ6_bitCount_0f7a4 0 = .ok (.iload_n 0, 1) := by decide +kernel
theorem dJ6_bitCount_0f7a4_1 : decode cJ6_bitCount_0f7a4 1 = .ok (.iload_n 0, 1) := by decide +kernel
theorem dJ6_bitCount_0f7a4_2 : decode cJ6_bitCount_0f7a4 2 = .ok (.iconst 1, 1) := by decide +kernel
theorem dJ6_bitCount_0f7a4_3 : decode cJ6_bitCount_0f7a4 3 = .ok (.iushr, 1) := by decide +kernel
theorem dJ6_bitCount_0f7a4_4 : decode cJ6_bitCount_0f7a4 4 = .ok (.ldc_w 265, 3) := by decide +kernel
theorem dJ6_bitCount_0f7a4_7 : decode cJ6_bitCount_0f7a4 7 = .ok (.iand, 1) := by decide +kernel
theorem dJ6_bitCount_0f7a4_8 : decode cJ6_bitCount_0f7a4 8 = .ok (.isub, 1) := by decide +kernel
theorem dJ6_bitCount_0f7a4_9 : decode cJ6_bitCount_0f7a4 9 = .ok (.istore_n 0, 1) := by decide +kernel
theorem dJ6_bitCount_0f7a4_10 : decode cJ6_bitCount_0f7a4 10 = .ok (.iload_n 0, 1) := by decide +kernel
theorem dJ6_bitCount_0f7a4_11 : decode cJ6_bitCount_0f7a4 11 = .ok (.ldc_w 266, 3) := by decide +kernel
theorem dJ6_bitCount_0f7a4_14 : decode cJ6_bitCount_0f7a4 14 = .ok (.iand, 1) := by decide +kernel
theorem dJ6_bitCount_0f7a4_15 : decode cJ6_bitCount_0f7a4 15 = .ok (.iload_n 0, 1) := by decide +kernel
theorem dJ6_bitCount_0f7a4_16 : decode cJ6_bitCount_0f7a4 16 = .ok (.iconst 2, 1) := by decide +kernel
theorem dJ6_bitCount_0f7a4_17 : decode cJ6_bitCount_0f7a4 17 = .ok (.iushr, 1) := by decide +kernel
theorem dJ6_bitCount_0f7a4_18 : decode cJ6_bitCount_0f7a4 18 = .ok (.ldc_w 266, 3) := by decide +kernel
theorem dJ6_bitCount_0f7a4_21 : decode cJ6_bitCount_0f7a4 21 = .ok (.iand, 1) := by decide +kernel
theorem dJ6_bitCount_0f7a4_22 : decode cJ6_bitCount_0f7a4 22 = .ok (.iadd, 1) := by decide +kernel
theorem dJ6_bitCount_0f7a4_23 : decode cJ6_bitCount_0f7a4 23 = .ok (.istore_n 0, 1) := by decide +kernel
theorem dJ6_bitCount_0f7a4_24 : decode cJ6_bitCount_0f7a4 24 = .ok (.iload_n 0, 1) := by decide +kernel
theorem dJ6_bitCount_0f7a4_25 : decode cJ6_bitCount_0f7a4 25 = .ok (.iload_n 0, 1) := by decide +kernel
theorem dJ6_bitCount_0f7a4_26 : decode cJ6_bitCount_0f7a4 26 = .ok (.iconst 4, 1) := by decide +kernel
theorem dJ6_bitCount_0f7a4_27 : decode cJ6_bitCount_0f7a4 27 = .ok (.iushr, 1) := by decide +kernel
theorem dJ6_bitCount_0f7a4_28 : decode cJ6_bitCount_0f7a4 28 = .ok (.iadd, 1) := by decide +kernel
theorem dJ6_bitCount_0f7a4_29 : decode cJ6_bitCount_0f7a4 29 = .ok (.ldc_w 267, 3) := by decide +kernel
theorem dJ6_bitCount_0f7a4_32 : decode cJ6_bitCount_0f7a4 32 = .ok (.iand, 1) := by decide +kernel
theorem dJ6_bitCount_0f7a4_33 : decode cJ6_bitCount_0f7a4 33 = .ok (.istore_n 0, 1) := by decide +kernel
theorem dJ6_bitCount_0f7a4_34 : decode cJ6_bitCount_0f7a4 34 = .ok (.iload_n 0, 1) := by decide +kernel
theorem dJ6_bitCount_0f7a4_35 : decode cJ6_bitCount_0f7a4 35 = .ok (.iload_n 0, 1) := by decide +kernel
theorem dJ6_bitCount_0f7a4_36 : decode cJ6_bitCount_0f7a4 36 = .ok (.bipush 8, 2) := by decide +kernel
theorem dJ6_bitCount_0f7a4_38 : decode cJ6_bitCount_0f7a4 38 = .ok (.iushr, 1) := by decide +kernel
theorem dJ6_bitCount_0f7a4_39 : decode cJ6_bitCount_0f7a4 39 = .ok (.iadd, 1) := by decide +kernel
theorem dJ6_bitCount_0f7a4_40 : decode cJ6_bitCount_0f7a4 40 = .ok (.istore_n 0, 1) := by decide +kernel
theorem dJ6_bitCount_0f7a4_41 : decode cJ6_bitCount_0f7a4 41 = .ok (.iload_n 0, 1) := by decide +kernel
theorem dJ6_bitCount_0f7a4_42 : decode cJ6_bitCount_0f7a4 42 = .ok (.iload_n 0, 1) := by decide +kernel
theorem dJ6_bitCount_0f7a4_43 : decode cJ6_bitCount_0f7a4 43 = .ok (.bipush 16, 2) := by decide +kernel
theorem dJ6_bitCount_0f7a4_45 : decode cJ6_bitCount_0f7a4 45 = .ok (.iushr, 1) := by decide +kernel
theorem dJ6_bitCount_0f7a4_46 : decode cJ6_bitCount_0f7a4 46 = .ok (.iadd, 1) := by decide +kernel
theorem dJ6_bitCount_0f7a4_47 : decode cJ6_bitCount_0f7a4 47 = .ok (.istore_n 0, 1) := by decide +kernel
theorem dJ6_bitCount_0f7a4_48 : decode cJ6_bitCount_0f7a4 48 = .ok (.iload_n 0, 1) := by decide +kernel
theorem dJ6_bitCount_0f7a4_49 : decode cJ6_bitCount_0f7a4 49 = .ok (.bipush 63, 2) := by decide +kernel
theorem dJ6_bitCount_0f7a4_51 : decode cJ6_bitCount_0f7a4 51 = .ok (.iand, 1) := by decide +kernel
theorem dJ6_bitCount_0f7a4_52 : decode cJ6_bitCount_0f7a4 52 = .ok (.ireturn, 1) := by decide +kernel
theorem dJ9_floorDiv_7cf53_0 : decode cJ9_floorDiv_7cf53 0 = .ok (.iload_n 0, 1) := by decide +kernel
theorem dJ9_floorDiv_7cf53_1 : decode cJ9_floorDiv_7cf53 1 = .ok (.iload_n 1, 1) := by decide +kernel
theorem dJ9_floorDiv_7cf53_2 : decode cJ9_floorDiv_7cf53 2 = .ok (.idiv, 1) := by decide +kernel
theorem dJ9_floorDiv_7cf53_3 : decode cJ9_floorDiv_7cf53 3 = .ok (.istore_n 2, 1) := by decide +kernel
theorem dJ9_floorDiv_7cf53_4 : decode cJ9_floorDiv_7cf53 4 = .ok (.iload_n 0, 1) := by decide +kernel
theorem dJ9_floorDiv_7cf53_5 : decode cJ9_floorDiv_7cf53 5 = .ok (.iload_n 1, 1) := by decide +kernel
theorem dJ9_floorDiv_7cf53_6 : decode cJ9_floorDiv_7cf53 6 = .ok (.ixor, 1) := by decide +kernel
theorem dJ9_floorDiv_7cf53_7 : decode cJ9_floorDiv_7cf53 7 = .ok (.ifCond .ge 14, 3) := by decide +kernel
theorem dJ9_floorDiv_7cf53_10 : decode cJ9_floorDiv_7cf53 10 = .ok (.iload_n 2, 1) := by decide +kernel
theorem dJ9_floorDiv_7cf53_11 : decode cJ9_floorDiv_7cf53 11 = .ok (.iload_n 1, 1) := by decide +kernel
theorem dJ9_floorDiv_7cf53_12 : decode cJ9_floorDiv_7cf53 12 = .ok (.imul, 1) := by decide +kernel
theorem dJ9_floorDiv_7cf53_13 : decode cJ9_floorDiv_7cf53 13 = .ok (.iload_n 0, 1) := by decide +kernel
theorem dJ9_floorDiv_7cf53_14 : decode cJ9_floorDiv_7cf53 14 = .ok (.if_icmp .eq 7, 3) := by decide +kernel
theorem dJ9_floorDiv_7cf53_17 : decode cJ9_floorDiv_7cf53 17 = .ok (.iload_n 2, 1) := by decide +kernel
theorem dJ9_floorDiv_7cf53_18 : decode cJ9_floorDiv_7cf53 18 = .ok (.iconst 1, 1) := by decide +kernel
theorem dJ9_floorDiv_7cf53_19 : decode cJ9_floorDiv_7cf53 19 = .ok (.isub, 1) := by decide +kernel
theorem dJ9_floorDiv_7cf53_20 : decode cJ9_floorDiv_7cf53 20 = .ok (.ireturn, 1) := by decide +kernel
theorem dJ9_floorDiv_7cf53_21 : decode cJ9_floorDiv_7cf53 21 = .ok (.iload_n 2, 1) := by decide +kernel
theorem dJ9_floorDiv_7cf53_22 : decode cJ9_floorDiv_7cf53 22 = .ok (.ireturn, 1) := by decide +kernel
theorem dJ9_abs_067f4_0 : decode cJ9_abs_067f4 0 = .ok (.lload_n 0, 1) := by decide +kernel
theorem dJ9_abs_067f4_1 : decode cJ9_abs_067f4 1 = .ok (.lconst 0, 1) := by decide +kernel
theorem dJ9_abs_067f4_2 : decode cJ9_abs_067f4 2 = .ok (.lcmp, 1) := by decide +kernel
theorem dJ9_abs_067f4_3 : decode cJ9_abs_067f4 3 = .ok (.ifCond .ge 8, 3) := by decide +kernel
theorem dJ9_abs_067f4_6 : decode cJ9_abs_067f4 6 = .ok (.lload_n 0, 1) := by decide +kernel
theorem dJ9_abs_067f4_7 : decode cJ9_abs_067f4 7 = .ok (.lneg, 1) := by decide +kernel
theorem dJ9_abs_067f4_8 : decode cJ9_abs_067f4 8 = .ok (.goto 4, 3) := by decide +kernel
theorem dJ9_abs_067f4_11 : decode cJ9_abs_067f4 11 = .ok (.lload_n 0, 1) := by decide +kernel
theorem dJ9_abs_067f4_12 : decode cJ9_abs_067f4 12 = .ok (.lreturn, 1) := by decide +kernel
theorem dJ9_max_7cf53_0 : decode cJ9_max_7cf53 0 = .ok (.iload_n 0, 1) := by decide +kernel
theorem dJ9_max_7cf53_1 : decode cJ9_max_7cf53 1 = .ok (.iload_n 1, 1) := by decide +kernel
theorem dJ9_max_7cf53_2 : decode cJ9_max_7cf53 2 = .ok (.if_icmp .lt 7, 3) := by decide +kernel
theorem dJ9_max_7cf53_5 : decode cJ9_max_7cf53 5 = .ok (.iload_n 0, 1) := by decide +kernel
theorem dJ9_max_7cf53_6 : decode cJ9_max_7cf53 6 = .ok (.goto 4, 3) := by decide +kernel
theorem dJ9_max_7cf53_9 : decode cJ9_max_7cf53 9 = .ok (.iload_n 1, 1) := by decide +kernel
theorem dJ9_max_7cf53_10 : decode cJ9_max_7cf53 10 = .ok (.ireturn, 1) := by decide +kernel
theorem dJ9_max_f86c9_0 : decode cJ9_max_f86c9 0 = .ok (.lload_n 0, 1) := by decide +kernel
theorem dJ9_max_f86c9_1 : decode cJ9_max_f86c9 1 = .ok (.lload_n 2, 1) := by decide +kernel
theorem dJ9_max_f86c9_2 : decode cJ9_max_f86c9 2 = .ok (.lcmp, 1) := by decide +kernel
theorem dJ9_max_f86c9_3 : decode cJ9_max_f86c9 3 = .ok (.ifCond .lt 7, 3) := by decide +kernel
theorem dJ9_max_f86c9_6 : decode cJ9_max_f86c9 6 = .ok (.lload_n 0, 1) := by decide +kernel
theorem dJ9_max_f86c9_7 : decode cJ9_max_f86c9 7 = .ok (.goto 4, 3) := by decide +kernel
theorem dJ9_max_f86c9_10 : decode cJ9_max_f86c9 10 = .ok (.lload_n 2, 1) := by decide +kernel
theorem dJ9_max_f86c9_11 : decode cJ9_max_f86c9 11 = .ok (.lreturn, 1) := by decide +kernel
theorem dJ9_min_7cf53_0 : decode cJ9_min_7cf53 0 = .ok (.iload_n 0, 1) := by decide +kernel
theorem dJ9_min_7cf53_1 : decode cJ9_min_7cf53 1 = .ok (.iload_n 1, 1) := by decide +kernel
theorem dJ9_min_7cf53_2 : decode cJ9_min_7cf53 2 = .ok (.if_icmp .gt 7, 3) := by decide +kernel
theorem dJ9_min_7cf53_5 : decode cJ9_min_7cf53 5 = .ok (.iload_n 0, 1) := by decide +kernel
theorem dJ9_min_7cf53_6 : decode cJ9_min_7cf53 6 = .ok (.goto 4, 3) := by decide +kernel
theorem dJ9_min_7cf53_9 : decode cJ9_min_7cf53 9 = .ok (.iload_n 1, 1) := by decide +kernel
theorem dJ9_min_7cf53_10 : decode cJ9_min_7cf53 10 = .ok (.ireturn, 1) := by decide +kernel
theorem dJ9_min_f86c9_0 : decode cJ9_min_f86c9 0 = .ok (.lload_n 0, 1) := by decide +kernel
theorem dJ9_min_f86c9_1 : decode cJ9_min_f86c9 1 = .ok (.lload_n 2, 1) := by decide +kernel
theorem dJ9_min_f86c9_2 : decode cJ9_min_f86c9 2 = .ok (.lcmp, 1) := by decide +kernel
theorem dJ9_min_f86c9_3 : decode cJ9_min_f86c9 3 = .ok (.ifCond .gt 7, 3) := by decide +kernel
theorem dJ9_min_f86c9_6 : decode cJ9_min_f86c9 6 = .ok (.lload_n 0, 1) := by decide +kernel
theorem dJ9_min_f86c9_7 : decode cJ9_min_f86c9 7 = .ok (.goto 4, 3) := by decide +kernel
theorem dJ9_min_f86c9_10 : decode cJ9_min_f86c9 10 = .ok (.lload_n 2, 1) := by decide +kernel
theorem dJ9_min_f86c9_11 : decode cJ9_min_f86c9 11 = .ok (.lreturn, 1) := by decide +kernel
theorem dJ7_fill_53178_0 : decode cJ7_fill_53178 0 = .ok (.iconst 0, 1) := by decide +kernel
theorem dJ7_fill_53178_1 : decode cJ7_fill_53178 1 = .ok (.istore_n 2, 1) := by decide +kernel
theorem dJ7_fill_53178_2 : decode cJ7_fill_53178 2 = .ok (.aload_n 0, 1) := by decide +kernel
theorem dJ7_fill_53178_3 : decode cJ7_fill_53178 3 = .ok (.arraylength, 1) := by decide +kernel
theorem dJ7_fill_53178_4 : decode cJ7_fill_53178 4 = .ok (.istore_n 3, 1) := by decide +kernel
theorem dJ7_fill_53178_5 : decode cJ7_fill_53178 5 = .ok (.iload_n 2, 1) := by decide +kernel
theorem dJ7_fill_53178_6 : decode cJ7_fill_53178 6 = .ok (.iload_n 3, 1) := by decide +kernel
theorem dJ7_fill_53178_7 : decode cJ7_fill_53178 7 = .ok (.if_icmp .ge 13, 3) := by decide +kernel
theorem dJ7_fill_53178_10 : decode cJ7_fill_53178 10 = .ok (.aload_n 0, 1) := by decide +kernel
theorem dJ7_fill_53178_11 : decode cJ7_fill_53178 11 = .ok (.iload_n 2, 1) := by decide +kernel
theorem dJ7_fill_53178_12 : decode cJ7_fill_53178 12 = .ok (.iload_n 1, 1) := by decide +kernel
theorem dJ7_fill_53178_13 : decode cJ7_fill_53178 13 = .ok (.iastore, 1) := by decide +kernel
theorem dJ7_fill_53178_14 : decode cJ7_fill_53178 14 = .ok (.iinc 2 1, 3) := by decide +kernel
theorem dJ7_fill_53178_17 : decode cJ7_fill_53178 17 = .ok (.goto (-12), 3) := by decide +kernel
theorem dJ7_fill_53178_20 : decode cJ7_fill_53178 20 = .ok (.return_, 1) := by decide +kernel
theorem dL_law_0 : decode cL_law 0 = .ok (.new 7, 3) := by decide +kernel
theorem dL_law_3 : decode cL_law 3 = .ok (.dup, 1) := by decide +kernel
theorem dL_law_4 : decode cL_law 4 = .ok (.invokespecial 9, 3) := by decide +kernel
theorem dL_law_7 : decode cL_law 7 = .ok (.astore_n 1, 1) := by decide +kernel
theorem dL_law_8 : decode cL_law 8 = .ok (.new 10, 3) := by decide +kernel
theorem dL_law_11 : decode cL_law 11 = .ok (.dup, 1) := by decide +kernel
theorem dL_law_12 : decode cL_law 12 = .ok (.invokespecial 12, 3) := by decide +kernel
theorem dL_law_15 : decode cL_law 15 = .ok (.astore_n 2, 1) := by decide +kernel
theorem dL_law_16 : decode cL_law 16 = .ok (.iconst 0, 1) := by decide +kernel
theorem dL_law_17 : decode cL_law 17 = .ok (.istore_n 3, 1) := by decide +kernel
theorem dL_law_18 : decode cL_law 18 = .ok (.iload_n 3, 1) := by decide +kernel
theorem dL_law_19 : decode cL_law 19 = .ok (.aload_n 0, 1) := by decide +kernel
theorem dL_law_20 : decode cL_law 20 = .ok (.arraylength, 1) := by decide +kernel
theorem dL_law_21 : decode cL_law 21 = .ok (.iconst 5, 1) := by decide +kernel
theorem dL_law_22 : decode cL_law 22 = .ok (.isub, 1) := by decide +kernel
theorem dL_law_23 : decode cL_law 23 = .ok (.if_icmp .gt 845, 3) := by decide +kernel
theorem dL_law_26 : decode cL_law 26 = .ok (.aload_n 0, 1) := by decide +kernel
theorem dL_law_27 : decode cL_law 27 = .ok (.iload_n 3, 1) := by decide +kernel
theorem dL_law_28 : decode cL_law 28 = .ok (.iaload, 1) := by decide +kernel
theorem dL_law_29 : decode cL_law 29 = .ok (.bipush 31, 2) := by decide +kernel
theorem dL_law_31 : decode cL_law 31 = .ok (.iand, 1) := by decide +kernel
theorem dL_law_32 : decode cL_law 32 = .ok (.tableswitch 830 0 22 #[108, 141, 194, 237, 286, 329, 342, 365, 388, 411, 444, 467, 490, 513, 546, 595, 628, 641, 654, 694, 744, 767, 807], 108) := by decide +kernel
theorem dL_law_140 : decode cL_law 140 = .ok (.aload_n 1, 1) := by decide +kernel
theorem dL_law_141 : decode cL_law 141 = .ok (.aload_n 0, 1) := by decide +kernel
theorem dL_law_142 : decode cL_law 142 = .ok (.iload_n 3, 1) := by decide +kernel
theorem dL_law_143 : decode cL_law 143 = .ok (.iconst 1, 1) := by decide +kernel
theorem dL_law_144 : decode cL_law 144 = .ok (.iadd, 1) := by decide +kernel
theorem dL_law_145 : decode cL_law 145 = .ok (.iaload, 1) := by decide +kernel
theorem dL_law_146 : decode cL_law 146 = .ok (.aload_n 0, 1) := by decide +kernel
theorem dL_law_147 : decode cL_law 147 = .ok (.iload_n 3, 1) := by decide +kernel
theorem dL_law_148 : decode cL_law 148 = .ok (.iconst 2, 1) := by decide +kernel
theorem dL_law_149 : decode cL_law 149 = .ok (.iadd, 1) := by decide +kernel
theorem dL_law_150 : decode cL_law 150 = .ok (.iaload, 1) := by decide +kernel
theorem dL_law_151 : decode cL_law 151 = .ok (.invokevirtual 13, 3) := by decide +kernel
theorem dL_law_154 : decode cL_law 154 = .ok (.aload_n 2, 1) := by decide +kernel
theorem dL_law_155 : decode cL_law 155 = .ok (.aload_n 0, 1) := by decide +kernel
theorem dL_law_156 : decode cL_law 156 = .ok (.iload_n 3, 1) := by decide +kernel
theorem dL_law_157 : decode cL_law 157 = .ok (.iconst 1, 1) := by decide +kernel
theorem dL_law_158 : decode cL_law 158 = .ok (.iadd, 1) := by decide +kernel
theorem dL_law_159 : decode cL_law 159 = .ok (.iaload, 1) := by decide +kernel
theorem dL_law_160 : decode cL_law 160 = .ok (.aload_n 0, 1) := by decide +kernel
theorem dL_law_161 : decode cL_law 161 = .ok (.iload_n 3, 1) := by decide +kernel
theorem dL_law_162 : decode cL_law 162 = .ok (.iconst 2, 1) := by decide +kernel
theorem dL_law_163 : decode cL_law 163 = .ok (.iadd, 1) := by decide +kernel
theorem dL_law_164 : decode cL_law 164 = .ok (.iaload, 1) := by decide +kernel
theorem dL_law_165 : decode cL_law 165 = .ok (.invokevirtual 17, 3) := by decide +kernel
theorem dL_law_168 : decode cL_law 168 = .ok (.if_icmp .eq 694, 3) := by decide +kernel
theorem dL_law_171 : decode cL_law 171 = .ok (.iconst 0, 1) := by decide +kernel
theorem dL_law_172 : decode cL_law 172 = .ok (.ireturn, 1) := by decide +kernel
theorem dL_law_173 : decode cL_law 173 = .ok (.aload_n 1, 1) := by decide +kernel
theorem dL_law_174 : decode cL_law 174 = .ok (.aload_n 0, 1) := by decide +kernel
theorem dL_law_175 : decode cL_law 175 = .ok (.iload_n 3, 1) := by decide +kernel
theorem dL_law_176 : decode cL_law 176 = .ok (.iconst 1, 1) := by decide +kernel
theorem dL_law_177 : decode cL_law 177 = .ok (.iadd, 1) := by decide +kernel
theorem dL_law_178 : decode cL_law 178 = .ok (.iaload, 1) := by decide +kernel
theorem dL_law_179 : decode cL_law 179 = .ok (.aload_n 0, 1) := by decide +kernel
theorem dL_law_180 : decode cL_law 180 = .ok (.iload_n 3, 1) := by decide +kernel
theorem dL_law_181 : decode cL_law 181 = .ok (.iconst 2, 1) := by decide +kernel
theorem dL_law_182 : decode cL_law 182 = .ok (.iadd, 1) := by decide +kernel
theorem dL_law_183 : decode cL_law 183 = .ok (.iaload, 1) := by decide +kernel
theorem dL_law_184 : decode cL_law 184 = .ok (.aload_n 0, 1) := by decide +kernel
theorem dL_law_185 : decode cL_law 185 = .ok (.iload_n 3, 1) := by decide +kernel
theorem dL_law_186 : decode cL_law 186 = .ok (.iconst 3, 1) := by decide +kernel
theorem dL_law_187 : decode cL_law 187 = .ok (.iadd, 1) := by decide +kernel
theorem dL_law_188 : decode cL_law 188 = .ok (.iaload, 1) := by decide +kernel
theorem dL_law_189 : decode cL_law 189 = .ok (.aload_n 0, 1) := by decide +kernel
theorem dL_law_190 : decode cL_law 190 = .ok (.iload_n 3, 1) := by decide +kernel
theorem dL_law_191 : decode cL_law 191 = .ok (.iconst 4, 1) := by decide +kernel
theorem dL_law_192 : decode cL_law 192 = .ok (.iadd, 1) := by decide +kernel
theorem dL_law_193 : decode cL_law 193 = .ok (.iaload, 1) := by decide +kernel
theorem dL_law_194 : decode cL_law 194 = .ok (.invokevirtual 18, 3) := by decide +kernel
theorem dL_law_197 : decode cL_law 197 = .ok (.aload_n 2, 1) := by decide +kernel
theorem dL_law_198 : decode cL_law 198 = .ok (.aload_n 0, 1) := by decide +kernel
theorem dL_law_199 : decode cL_law 199 = .ok (.iload_n 3, 1) := by decide +kernel
theorem dL_law_200 : decode cL_law 200 = .ok (.iconst 1, 1) := by decide +kernel
theorem dL_law_201 : decode cL_law 201 = .ok (.iadd, 1) := by decide +kernel
theorem dL_law_202 : decode cL_law 202 = .ok (.iaload, 1) := by decide +kernel
theorem dL_law_203 : decode cL_law 203 = .ok (.aload_n 0, 1) := by decide +kernel
theorem dL_law_204 : decode cL_law 204 = .ok (.iload_n 3, 1) := by decide +kernel
theorem dL_law_205 : decode cL_law 205 = .ok (.iconst 2, 1) := by decide +kernel
theorem dL_law_206 : decode cL_law 206 = .ok (.iadd, 1) := by decide +kernel
theorem dL_law_207 : decode cL_law 207 = .ok (.iaload, 1) := by decide +kernel
theorem dL_law_208 : decode cL_law 208 = .ok (.aload_n 0, 1) := by decide +kernel
theorem dL_law_209 : decode cL_law 209 = .ok (.iload_n 3, 1) := by decide +kernel
theorem dL_law_210 : decode cL_law 210 = .ok (.iconst 3, 1) := by decide +kernel
theorem dL_law_211 : decode cL_law 211 = .ok (.iadd, 1) := by decide +kernel
theorem dL_law_212 : decode cL_law 212 = .ok (.iaload, 1) := by decide +kernel
theorem dL_law_213 : decode cL_law 213 = .ok (.aload_n 0, 1) := by decide +kernel
theorem dL_law_214 : decode cL_law 214 = .ok (.iload_n 3, 1) := by decide +kernel
theorem dL_law_215 : decode cL_law 215 = .ok (.iconst 4, 1) := by decide +kernel
theorem dL_law_216 : decode cL_law 216 = .ok (.iadd, 1) := by decide +kernel
theorem dL_law_217 : decode cL_law 217 = .ok (.iaload, 1) := by decide +kernel
theorem dL_law_218 : decode cL_law 218 = .ok (.invokevirtual 22, 3) := by decide +kernel
theorem dL_law_221 : decode cL_law 221 = .ok (.if_icmp .eq 641, 3) := by decide +kernel
theorem dL_law_224 : decode cL_law 224 = .ok (.iconst 0, 1) := by decide +kernel
theorem dL_law_225 : decode cL_law 225 = .ok (.ireturn, 1) := by decide +kernel
theorem dL_law_226 : decode cL_law 226 = .ok (.aload_n 1, 1) := by decide +kernel
theorem dL_law_227 : decode cL_law 227 = .ok (.aload_n 0, 1) := by decide +kernel
theorem dL_law_228 : decode cL_law 228 = .ok (.iload_n 3, 1) := by decide +kernel
theorem dL_law_229 : decode cL_law 229 = .ok (.iconst 1, 1) := by decide +kernel
theorem dL_law_230 : decode cL_law 230 = .ok (.iadd, 1) := by decide +kernel
theorem dL_law_231 : decode cL_law 231 = .ok (.iaload, 1) := by decide +kernel
theorem dL_law_232 : decode cL_law 232 = .ok (.aload_n 0, 1) := by decide +kernel
theorem dL_law_233 : decode cL_law 233 = .ok (.iload_n 3, 1) := by decide +kernel
theorem dL_law_234 : decode cL_law 234 = .ok (.iconst 2, 1) := by decide +kernel
theorem dL_law_235 : decode cL_law 235 = .ok (.iadd, 1) := by decide +kernel
theorem dL_law_236 : decode cL_law 236 = .ok (.iaload, 1) := by decide +kernel
theorem dL_law_237 : decode cL_law 237 = .ok (.aload_n 0, 1) := by decide +kernel
theorem dL_law_238 : decode cL_law 238 = .ok (.iload_n 3, 1) := by decide +kernel
theorem dL_law_239 : decode cL_law 239 = .ok (.iconst 3, 1) := by decide +kernel
theorem dL_law_240 : decode cL_law 240 = .ok (.iadd, 1) := by decide +kernel
theorem dL_law_241 : decode cL_law 241 = .ok (.iaload, 1) := by decide +kernel
theorem dL_law_242 : decode cL_law 242 = .ok (.invokevirtual 23, 3) := by decide +kernel
theorem dL_law_245 : decode cL_law 245 = .ok (.aload_n 2, 1) := by decide +kernel
theorem dL_law_246 : decode cL_law 246 = .ok (.aload_n 0, 1) := by decide +kernel
theorem dL_law_247 : decode cL_law 247 = .ok (.iload_n 3, 1) := by decide +kernel
theorem dL_law_248 : decode cL_law 248 = .ok (.iconst 1, 1) := by decide +kernel
theorem dL_law_249 : decode cL_law 249 = .ok (.iadd, 1) := by decide +kernel
theorem dL_law_250 : decode cL_law 250 = .ok (.iaload, 1) := by decide +kernel
theorem dL_law_251 : decode cL_law 251 = .ok (.aload_n 0, 1) := by decide +kernel
theorem dL_law_252 : decode cL_law 252 = .ok (.iload_n 3, 1) := by decide +kernel
theorem dL_law_253 : decode cL_law 253 = .ok (.iconst 2, 1) := by decide +kernel
theorem dL_law_254 : decode cL_law 254 = .ok (.iadd, 1) := by decide +kernel
theorem dL_law_255 : decode cL_law 255 = .ok (.iaload, 1) := by decide +kernel
theorem dL_law_256 : decode cL_law 256 = .ok (.aload_n 0, 1) := by decide +kernel
theorem dL_law_257 : decode cL_law 257 = .ok (.iload_n 3, 1) := by decide +kernel
theorem dL_law_258 : decode cL_law 258 = .ok (.iconst 3, 1) := by decide +kernel
theorem dL_law_259 : decode cL_law 259 = .ok (.iadd, 1) := by decide +kernel
theorem dL_law_260 : decode cL_law 260 = .ok (.iaload, 1) := by decide +kernel
theorem dL_law_261 : decode cL_law 261 = .ok (.invokevirtual 27, 3) := by decide +kernel
theorem dL_law_264 : decode cL_law 264 = .ok (.if_icmp .eq 598, 3) := by decide +kernel
theorem dL_law_267 : decode cL_law 267 = .ok (.iconst 0, 1) := by decide +kernel
theorem dL_law_268 : decode cL_law 268 = .ok (.ireturn, 1) := by decide +kernel
theorem dL_law_269 : decode cL_law 269 = .ok (.aload_n 1, 1) := by decide +kernel
theorem dL_law_270 : decode cL_law 270 = .ok (.aload_n 0, 1) := by decide +kernel
theorem dL_law_271 : decode cL_law 271 = .ok (.iload_n 3, 1) := by decide +kernel
theorem dL_law_272 : decode cL_law 272 = .ok (.iconst 1, 1) := by decide +kernel
theorem dL_law_273 : decode cL_law 273 = .ok (.iadd, 1) := by decide +kernel
theorem dL_law_274 : decode cL_law 274 = .ok (.iaload, 1) := by decide +kernel
theorem dL_law_275 : decode cL_law 275 = .ok (.aload_n 0, 1) := by decide +kernel
theorem dL_law_276 : decode cL_law 276 = .ok (.iload_n 3, 1) := by decide +kernel
theorem dL_law_277 : decode cL_law 277 = .ok (.iconst 2, 1) := by decide +kernel
theorem dL_law_278 : decode cL_law 278 = .ok (.iadd, 1) := by decide +kernel
theorem dL_law_279 : decode cL_law 279 = .ok (.iaload, 1) := by decide +kernel
theorem dL_law_280 : decode cL_law 280 = .ok (.ifCond .eq 7, 3) := by decide +kernel
theorem dL_law_283 : decode cL_law 283 = .ok (.iconst 1, 1) := by decide +kernel
theorem dL_law_284 : decode cL_law 284 = .ok (.goto 4, 3) := by decide +kernel
theorem dL_law_287 : decode cL_law 287 = .ok (.iconst 0, 1) := by decide +kernel
theorem dL_law_288 : decode cL_law 288 = .ok (.invokevirtual 28, 3) := by decide +kernel
theorem dL_law_291 : decode cL_law 291 = .ok (.aload_n 2, 1) := by decide +kernel
theorem dL_law_292 : decode cL_law 292 = .ok (.aload_n 0, 1) := by decide +kernel
theorem dL_law_293 : decode cL_law 293 = .ok (.iload_n 3, 1) := by decide +kernel
theorem dL_law_294 : decode cL_law 294 = .ok (.iconst 1, 1) := by decide +kernel
theorem dL_law_295 : decode cL_law 295 = .ok (.iadd, 1) := by decide +kernel
theorem dL_law_296 : decode cL_law 296 = .ok (.iaload, 1) := by decide +kernel
theorem dL_law_297 : decode cL_law 297 = .ok (.aload_n 0, 1) := by decide +kernel
theorem dL_law_298 : decode cL_law 298 = .ok (.iload_n 3, 1) := by decide +kernel
theorem dL_law_299 : decode cL_law 299 = .ok (.iconst 2, 1) := by decide +kernel
theorem dL_law_300 : decode cL_law 300 = .ok (.iadd, 1) := by decide +kernel
theorem dL_law_301 : decode cL_law 301 = .ok (.iaload, 1) := by decide +kernel
theorem dL_law_302 : decode cL_law 302 = .ok (.ifCond .eq 7, 3) := by decide +kernel
theorem dL_law_305 : decode cL_law 305 = .ok (.iconst 1, 1) := by decide +kernel
theorem dL_law_306 : decode cL_law 306 = .ok (.goto 4, 3) := by decide +kernel
theorem dL_law_309 : decode cL_law 309 = .ok (.iconst 0, 1) := by decide +kernel
theorem dL_law_310 : decode cL_law 310 = .ok (.invokevirtual 32, 3) := by decide +kernel
theorem dL_law_313 : decode cL_law 313 = .ok (.if_icmp .eq 549, 3) := by decide +kernel
theorem dL_law_316 : decode cL_law 316 = .ok (.iconst 0, 1) := by decide +kernel
theorem dL_law_317 : decode cL_law 317 = .ok (.ireturn, 1) := by decide +kernel
theorem dL_law_318 : decode cL_law 318 = .ok (.aload_n 1, 1) := by decide +kernel
theorem dL_law_319 : decode cL_law 319 = .ok (.aload_n 0, 1) := by decide +kernel
theorem dL_law_320 : decode cL_law 320 = .ok (.iload_n 3, 1) := by decide +kernel
theorem dL_law_321 : decode cL_law 321 = .ok (.iconst 1, 1) := by decide +kernel
theorem dL_law_322 : decode cL_law 322 = .ok (.iadd, 1) := by decide +kernel
theorem dL_law_323 : decode cL_law 323 = .ok (.iaload, 1) := by decide +kernel
theorem dL_law_324 : decode cL_law 324 = .ok (.aload_n 0, 1) := by decide +kernel
theorem dL_law_325 : decode cL_law 325 = .ok (.iload_n 3, 1) := by decide +kernel
theorem dL_law_326 : decode cL_law 326 = .ok (.iconst 2, 1) := by decide +kernel
theorem dL_law_327 : decode cL_law 327 = .ok (.iadd, 1) := by decide +kernel
theorem dL_law_328 : decode cL_law 328 = .ok (.iaload, 1) := by decide +kernel
theorem dL_law_329 : decode cL_law 329 = .ok (.aload_n 0, 1) := by decide +kernel
theorem dL_law_330 : decode cL_law 330 = .ok (.iload_n 3, 1) := by decide +kernel
theorem dL_law_331 : decode cL_law 331 = .ok (.iconst 3, 1) := by decide +kernel
theorem dL_law_332 : decode cL_law 332 = .ok (.iadd, 1) := by decide +kernel
theorem dL_law_333 : decode cL_law 333 = .ok (.iaload, 1) := by decide +kernel
theorem dL_law_334 : decode cL_law 334 = .ok (.invokevirtual 33, 3) := by decide +kernel
theorem dL_law_337 : decode cL_law 337 = .ok (.aload_n 2, 1) := by decide +kernel
theorem dL_law_338 : decode cL_law 338 = .ok (.aload_n 0, 1) := by decide +kernel
theorem dL_law_339 : decode cL_law 339 = .ok (.iload_n 3, 1) := by decide +kernel
theorem dL_law_340 : decode cL_law 340 = .ok (.iconst 1, 1) := by decide +kernel
theorem dL_law_341 : decode cL_law 341 = .ok (.iadd, 1) := by decide +kernel
theorem dL_law_342 : decode cL_law 342 = .ok (.iaload, 1) := by decide +kernel
theorem dL_law_343 : decode cL_law 343 = .ok (.aload_n 0, 1) := by decide +kernel
theorem dL_law_344 : decode cL_law 344 = .ok (.iload_n 3, 1) := by decide +kernel
theorem dL_law_345 : decode cL_law 345 = .ok (.iconst 2, 1) := by decide +kernel
theorem dL_law_346 : decode cL_law 346 = .ok (.iadd, 1) := by decide +kernel
theorem dL_law_347 : decode cL_law 347 = .ok (.iaload, 1) := by decide +kernel
theorem dL_law_348 : decode cL_law 348 = .ok (.aload_n 0, 1) := by decide +kernel
theorem dL_law_349 : decode cL_law 349 = .ok (.iload_n 3, 1) := by decide +kernel
theorem dL_law_350 : decode cL_law 350 = .ok (.iconst 3, 1) := by decide +kernel
theorem dL_law_351 : decode cL_law 351 = .ok (.iadd, 1) := by decide +kernel
theorem dL_law_352 : decode cL_law 352 = .ok (.iaload, 1) := by decide +kernel
theorem dL_law_353 : decode cL_law 353 = .ok (.invokevirtual 36, 3) := by decide +kernel
theorem dL_law_356 : decode cL_law 356 = .ok (.if_icmp .eq 506, 3) := by decide +kernel
theorem dL_law_359 : decode cL_law 359 = .ok (.iconst 0, 1) := by decide +kernel
theorem dL_law_360 : decode cL_law 360 = .ok (.ireturn, 1) := by decide +kernel
theorem dL_law_361 : decode cL_law 361 = .ok (.aload_n 1, 1) := by decide +kernel
theorem dL_law_362 : decode cL_law 362 = .ok (.invokevirtual 37, 3) := by decide +kernel
theorem dL_law_365 : decode cL_law 365 = .ok (.aload_n 2, 1) := by decide +kernel
theorem dL_law_366 : decode cL_law 366 = .ok (.invokevirtual 41, 3) := by decide +kernel
theorem dL_law_369 : decode cL_law 369 = .ok (.if_icmp .eq 493, 3) := by decide +kernel
theorem dL_law_372 : decode cL_law 372 = .ok (.iconst 0, 1) := by decide +kernel
theorem dL_law_373 : decode cL_law 373 = .ok (.ireturn, 1) := by decide +kernel
theorem dL_law_374 : decode cL_law 374 = .ok (.aload_n 1, 1) := by decide +kernel
theorem dL_law_375 : decode cL_law 375 = .ok (.aload_n 0, 1) := by decide +kernel
theorem dL_law_376 : decode cL_law 376 = .ok (.iload_n 3, 1) := by decide +kernel
theorem dL_law_377 : decode cL_law 377 = .ok (.iconst 1, 1) := by decide +kernel
theorem dL_law_378 : decode cL_law 378 = .ok (.iadd, 1) := by decide +kernel
theorem dL_law_379 : decode cL_law 379 = .ok (.iaload, 1) := by decide +kernel
theorem dL_law_380 : decode cL_law 380 = .ok (.invokevirtual 42, 3) := by decide +kernel
theorem dL_law_383 : decode cL_law 383 = .ok (.aload_n 2, 1) := by decide +kernel
theorem dL_law_384 : decode cL_law 384 = .ok (.aload_n 0, 1) := by decide +kernel
theorem dL_law_385 : decode cL_law 385 = .ok (.iload_n 3, 1) := by decide +kernel
theorem dL_law_386 : decode cL_law 386 = .ok (.iconst 1, 1) := by decide +kernel
theorem dL_law_387 : decode cL_law 387 = .ok (.iadd, 1) := by decide +kernel
theorem dL_law_388 : decode cL_law 388 = .ok (.iaload, 1) := by decide +kernel
theorem dL_law_389 : decode cL_law 389 = .ok (.invokevirtual 46, 3) := by decide +kernel
theorem dL_law_392 : decode cL_law 392 = .ok (.if_icmp .eq 470, 3) := by decide +kernel
theorem dL_law_395 : decode cL_law 395 = .ok (.iconst 0, 1) := by decide +kernel
theorem dL_law_396 : decode cL_law 396 = .ok (.ireturn, 1) := by decide +kernel
theorem dL_law_397 : decode cL_law 397 = .ok (.aload_n 1, 1) := by decide +kernel
theorem dL_law_398 : decode cL_law 398 = .ok (.aload_n 0, 1) := by decide +kernel
theorem dL_law_399 : decode cL_law 399 = .ok (.iload_n 3, 1) := by decide +kernel
theorem dL_law_400 : decode cL_law 400 = .ok (.iconst 1, 1) := by decide +kernel
theorem dL_law_401 : decode cL_law 401 = .ok (.iadd, 1) := by decide +kernel
theorem dL_law_402 : decode cL_law 402 = .ok (.iaload, 1) := by decide +kernel
theorem dL_law_403 : decode cL_law 403 = .ok (.invokevirtual 47, 3) := by decide +kernel
theorem dL_law_406 : decode cL_law 406 = .ok (.aload_n 2, 1) := by decide +kernel
theorem dL_law_407 : decode cL_law 407 = .ok (.aload_n 0, 1) := by decide +kernel
theorem dL_law_408 : decode cL_law 408 = .ok (.iload_n 3, 1) := by decide +kernel
theorem dL_law_409 : decode cL_law 409 = .ok (.iconst 1, 1) := by decide +kernel
theorem dL_law_410 : decode cL_law 410 = .ok (.iadd, 1) := by decide +kernel
theorem dL_law_411 : decode cL_law 411 = .ok (.iaload, 1) := by decide +kernel
theorem dL_law_412 : decode cL_law 412 = .ok (.invokevirtual 50, 3) := by decide +kernel
theorem dL_law_415 : decode cL_law 415 = .ok (.if_icmp .eq 447, 3) := by decide +kernel
theorem dL_law_418 : decode cL_law 418 = .ok (.iconst 0, 1) := by decide +kernel
theorem dL_law_419 : decode cL_law 419 = .ok (.ireturn, 1) := by decide +kernel
theorem dL_law_420 : decode cL_law 420 = .ok (.aload_n 1, 1) := by decide +kernel
theorem dL_law_421 : decode cL_law 421 = .ok (.aload_n 0, 1) := by decide +kernel
theorem dL_law_422 : decode cL_law 422 = .ok (.iload_n 3, 1) := by decide +kernel
theorem dL_law_423 : decode cL_law 423 = .ok (.iconst 1, 1) := by decide +kernel
theorem dL_law_424 : decode cL_law 424 = .ok (.iadd, 1) := by decide +kernel
theorem dL_law_425 : decode cL_law 425 = .ok (.iaload, 1) := by decide +kernel
theorem dL_law_426 : decode cL_law 426 = .ok (.invokevirtual 51, 3) := by decide +kernel
theorem dL_law_429 : decode cL_law 429 = .ok (.aload_n 2, 1) := by decide +kernel
theorem dL_law_430 : decode cL_law 430 = .ok (.aload_n 0, 1) := by decide +kernel
theorem dL_law_431 : decode cL_law 431 = .ok (.iload_n 3, 1) := by decide +kernel
theorem dL_law_432 : decode cL_law 432 = .ok (.iconst 1, 1) := by decide +kernel
theorem dL_law_433 : decode cL_law 433 = .ok (.iadd, 1) := by decide +kernel
theorem dL_law_434 : decode cL_law 434 = .ok (.iaload, 1) := by decide +kernel
theorem dL_law_435 : decode cL_law 435 = .ok (.invokevirtual 54, 3) := by decide +kernel
theorem dL_law_438 : decode cL_law 438 = .ok (.if_icmp .eq 424, 3) := by decide +kernel
theorem dL_law_441 : decode cL_law 441 = .ok (.iconst 0, 1) := by decide +kernel
theorem dL_law_442 : decode cL_law 442 = .ok (.ireturn, 1) := by decide +kernel
theorem dL_law_443 : decode cL_law 443 = .ok (.aload_n 1, 1) := by decide +kernel
theorem dL_law_444 : decode cL_law 444 = .ok (.aload_n 0, 1) := by decide +kernel
theorem dL_law_445 : decode cL_law 445 = .ok (.iload_n 3, 1) := by decide +kernel
theorem dL_law_446 : decode cL_law 446 = .ok (.iconst 1, 1) := by decide +kernel
theorem dL_law_447 : decode cL_law 447 = .ok (.iadd, 1) := by decide +kernel
theorem dL_law_448 : decode cL_law 448 = .ok (.iaload, 1) := by decide +kernel
theorem dL_law_449 : decode cL_law 449 = .ok (.aload_n 0, 1) := by decide +kernel
theorem dL_law_450 : decode cL_law 450 = .ok (.iload_n 3, 1) := by decide +kernel
theorem dL_law_451 : decode cL_law 451 = .ok (.iconst 2, 1) := by decide +kernel
theorem dL_law_452 : decode cL_law 452 = .ok (.iadd, 1) := by decide +kernel
theorem dL_law_453 : decode cL_law 453 = .ok (.iaload, 1) := by decide +kernel
theorem dL_law_454 : decode cL_law 454 = .ok (.invokevirtual 55, 3) := by decide +kernel
theorem dL_law_457 : decode cL_law 457 = .ok (.aload_n 2, 1) := by decide +kernel
theorem dL_law_458 : decode cL_law 458 = .ok (.aload_n 0, 1) := by decide +kernel
theorem dL_law_459 : decode cL_law 459 = .ok (.iload_n 3, 1) := by decide +kernel
theorem dL_law_460 : decode cL_law 460 = .ok (.iconst 1, 1) := by decide +kernel
theorem dL_law_461 : decode cL_law 461 = .ok (.iadd, 1) := by decide +kernel
theorem dL_law_462 : decode cL_law 462 = .ok (.iaload, 1) := by decide +kernel
theorem dL_law_463 : decode cL_law 463 = .ok (.aload_n 0, 1) := by decide +kernel
theorem dL_law_464 : decode cL_law 464 = .ok (.iload_n 3, 1) := by decide +kernel
theorem dL_law_465 : decode cL_law 465 = .ok (.iconst 2, 1) := by decide +kernel
theorem dL_law_466 : decode cL_law 466 = .ok (.iadd, 1) := by decide +kernel
theorem dL_law_467 : decode cL_law 467 = .ok (.iaload, 1) := by decide +kernel
theorem dL_law_468 : decode cL_law 468 = .ok (.invokevirtual 58, 3) := by decide +kernel
theorem dL_law_471 : decode cL_law 471 = .ok (.if_icmp .eq 391, 3) := by decide +kernel
theorem dL_law_474 : decode cL_law 474 = .ok (.iconst 0, 1) := by decide +kernel
theorem dL_law_475 : decode cL_law 475 = .ok (.ireturn, 1) := by decide +kernel
theorem dL_law_476 : decode cL_law 476 = .ok (.aload_n 1, 1) := by decide +kernel
theorem dL_law_477 : decode cL_law 477 = .ok (.aload_n 0, 1) := by decide +kernel
theorem dL_law_478 : decode cL_law 478 = .ok (.iload_n 3, 1) := by decide +kernel
theorem dL_law_479 : decode cL_law 479 = .ok (.iconst 1, 1) := by decide +kernel
theorem dL_law_480 : decode cL_law 480 = .ok (.iadd, 1) := by decide +kernel
theorem dL_law_481 : decode cL_law 481 = .ok (.iaload, 1) := by decide +kernel
theorem dL_law_482 : decode cL_law 482 = .ok (.invokevirtual 59, 3) := by decide +kernel
theorem dL_law_485 : decode cL_law 485 = .ok (.aload_n 2, 1) := by decide +kernel
theorem dL_law_486 : decode cL_law 486 = .ok (.aload_n 0, 1) := by decide +kernel
theorem dL_law_487 : decode cL_law 487 = .ok (.iload_n 3, 1) := by decide +kernel
theorem dL_law_488 : decode cL_law 488 = .ok (.iconst 1, 1) := by decide +kernel
theorem dL_law_489 : decode cL_law 489 = .ok (.iadd, 1) := by decide +kernel
theorem dL_law_490 : decode cL_law 490 = .ok (.iaload, 1) := by decide +kernel
theorem dL_law_491 : decode cL_law 491 = .ok (.invokevirtual 62, 3) := by decide +kernel
theorem dL_law_494 : decode cL_law 494 = .ok (.if_icmp .eq 368, 3) := by decide +kernel
theorem dL_law_497 : decode cL_law 497 = .ok (.iconst 0, 1) := by decide +kernel
theorem dL_law_498 : decode cL_law 498 = .ok (.ireturn, 1) := by decide +kernel
theorem dL_law_499 : decode cL_law 499 = .ok (.aload_n 1, 1) := by decide +kernel
theorem dL_law_500 : decode cL_law 500 = .ok (.aload_n 0, 1) := by decide +kernel
theorem dL_law_501 : decode cL_law 501 = .ok (.iload_n 3, 1) := by decide +kernel
theorem dL_law_502 : decode cL_law 502 = .ok (.iconst 1, 1) := by decide +kernel
theorem dL_law_503 : decode cL_law 503 = .ok (.iadd, 1) := by decide +kernel
theorem dL_law_504 : decode cL_law 504 = .ok (.iaload, 1) := by decide +kernel
theorem dL_law_505 : decode cL_law 505 = .ok (.invokevirtual 63, 3) := by decide +kernel
theorem dL_law_508 : decode cL_law 508 = .ok (.aload_n 2, 1) := by decide +kernel
theorem dL_law_509 : decode cL_law 509 = .ok (.aload_n 0, 1) := by decide +kernel
theorem dL_law_510 : decode cL_law 510 = .ok (.iload_n 3, 1) := by decide +kernel
theorem dL_law_511 : decode cL_law 511 = .ok (.iconst 1, 1) := by decide +kernel
theorem dL_law_512 : decode cL_law 512 = .ok (.iadd, 1) := by decide +kernel
theorem dL_law_513 : decode cL_law 513 = .ok (.iaload, 1) := by decide +kernel
theorem dL_law_514 : decode cL_law 514 = .ok (.invokevirtual 66, 3) := by decide +kernel
theorem dL_law_517 : decode cL_law 517 = .ok (.if_icmp .eq 345, 3) := by decide +kernel
theorem dL_law_520 : decode cL_law 520 = .ok (.iconst 0, 1) := by decide +kernel
theorem dL_law_521 : decode cL_law 521 = .ok (.ireturn, 1) := by decide +kernel
theorem dL_law_522 : decode cL_law 522 = .ok (.aload_n 1, 1) := by decide +kernel
theorem dL_law_523 : decode cL_law 523 = .ok (.aload_n 0, 1) := by decide +kernel
theorem dL_law_524 : decode cL_law 524 = .ok (.iload_n 3, 1) := by decide +kernel
theorem dL_law_525 : decode cL_law 525 = .ok (.iconst 1, 1) := by decide +kernel
theorem dL_law_526 : decode cL_law 526 = .ok (.iadd, 1) := by decide +kernel
theorem dL_law_527 : decode cL_law 527 = .ok (.iaload, 1) := by decide +kernel
theorem dL_law_528 : decode cL_law 528 = .ok (.invokevirtual 67, 3) := by decide +kernel
theorem dL_law_531 : decode cL_law 531 = .ok (.aload_n 2, 1) := by decide +kernel
theorem dL_law_532 : decode cL_law 532 = .ok (.aload_n 0, 1) := by decide +kernel
theorem dL_law_533 : decode cL_law 533 = .ok (.iload_n 3, 1) := by decide +kernel
theorem dL_law_534 : decode cL_law 534 = .ok (.iconst 1, 1) := by decide +kernel
theorem dL_law_535 : decode cL_law 535 = .ok (.iadd, 1) := by decide +kernel
theorem dL_law_536 : decode cL_law 536 = .ok (.iaload, 1) := by decide +kernel
theorem dL_law_537 : decode cL_law 537 = .ok (.invokevirtual 70, 3) := by decide +kernel
theorem dL_law_540 : decode cL_law 540 = .ok (.if_icmp .eq 322, 3) := by decide +kernel
theorem dL_law_543 : decode cL_law 543 = .ok (.iconst 0, 1) := by decide +kernel
theorem dL_law_544 : decode cL_law 544 = .ok (.ireturn, 1) := by decide +kernel
theorem dL_law_545 : decode cL_law 545 = .ok (.aload_n 1, 1) := by decide +kernel
theorem dL_law_546 : decode cL_law 546 = .ok (.aload_n 0, 1) := by decide +kernel
theorem dL_law_547 : decode cL_law 547 = .ok (.iload_n 3, 1) := by decide +kernel
theorem dL_law_548 : decode cL_law 548 = .ok (.iconst 1, 1) := by decide +kernel
theorem dL_law_549 : decode cL_law 549 = .ok (.iadd, 1) := by decide +kernel
theorem dL_law_550 : decode cL_law 550 = .ok (.iaload, 1) := by decide +kernel
theorem dL_law_551 : decode cL_law 551 = .ok (.aload_n 0, 1) := by decide +kernel
theorem dL_law_552 : decode cL_law 552 = .ok (.iload_n 3, 1) := by decide +kernel
theorem dL_law_553 : decode cL_law 553 = .ok (.iconst 2, 1) := by decide +kernel
theorem dL_law_554 : decode cL_law 554 = .ok (.iadd, 1) := by decide +kernel
theorem dL_law_555 : decode cL_law 555 = .ok (.iaload, 1) := by decide +kernel
theorem dL_law_556 : decode cL_law 556 = .ok (.invokevirtual 71, 3) := by decide +kernel
theorem dL_law_559 : decode cL_law 559 = .ok (.aload_n 2, 1) := by decide +kernel
theorem dL_law_560 : decode cL_law 560 = .ok (.aload_n 0, 1) := by decide +kernel
theorem dL_law_561 : decode cL_law 561 = .ok (.iload_n 3, 1) := by decide +kernel
theorem dL_law_562 : decode cL_law 562 = .ok (.iconst 1, 1) := by decide +kernel
theorem dL_law_563 : decode cL_law 563 = .ok (.iadd, 1) := by decide +kernel
theorem dL_law_564 : decode cL_law 564 = .ok (.iaload, 1) := by decide +kernel
theorem dL_law_565 : decode cL_law 565 = .ok (.aload_n 0, 1) := by decide +kernel
theorem dL_law_566 : decode cL_law 566 = .ok (.iload_n 3, 1) := by decide +kernel
theorem dL_law_567 : decode cL_law 567 = .ok (.iconst 2, 1) := by decide +kernel
theorem dL_law_568 : decode cL_law 568 = .ok (.iadd, 1) := by decide +kernel
theorem dL_law_569 : decode cL_law 569 = .ok (.iaload, 1) := by decide +kernel
theorem dL_law_570 : decode cL_law 570 = .ok (.invokevirtual 74, 3) := by decide +kernel
theorem dL_law_573 : decode cL_law 573 = .ok (.if_icmp .eq 289, 3) := by decide +kernel
theorem dL_law_576 : decode cL_law 576 = .ok (.iconst 0, 1) := by decide +kernel
theorem dL_law_577 : decode cL_law 577 = .ok (.ireturn, 1) := by decide +kernel
theorem dL_law_578 : decode cL_law 578 = .ok (.aload_n 1, 1) := by decide +kernel
theorem dL_law_579 : decode cL_law 579 = .ok (.aload_n 0, 1) := by decide +kernel
theorem dL_law_580 : decode cL_law 580 = .ok (.iload_n 3, 1) := by decide +kernel
theorem dL_law_581 : decode cL_law 581 = .ok (.iconst 1, 1) := by decide +kernel
theorem dL_law_582 : decode cL_law 582 = .ok (.iadd, 1) := by decide +kernel
theorem dL_law_583 : decode cL_law 583 = .ok (.iaload, 1) := by decide +kernel
theorem dL_law_584 : decode cL_law 584 = .ok (.aload_n 0, 1) := by decide +kernel
theorem dL_law_585 : decode cL_law 585 = .ok (.iload_n 3, 1) := by decide +kernel
theorem dL_law_586 : decode cL_law 586 = .ok (.iconst 2, 1) := by decide +kernel
theorem dL_law_587 : decode cL_law 587 = .ok (.iadd, 1) := by decide +kernel
theorem dL_law_588 : decode cL_law 588 = .ok (.iaload, 1) := by decide +kernel
theorem dL_law_589 : decode cL_law 589 = .ok (.ifCond .eq 7, 3) := by decide +kernel
theorem dL_law_592 : decode cL_law 592 = .ok (.iconst 1, 1) := by decide +kernel
theorem dL_law_593 : decode cL_law 593 = .ok (.goto 4, 3) := by decide +kernel
theorem dL_law_596 : decode cL_law 596 = .ok (.iconst 0, 1) := by decide +kernel
theorem dL_law_597 : decode cL_law 597 = .ok (.invokevirtual 75, 3) := by decide +kernel
theorem dL_law_600 : decode cL_law 600 = .ok (.aload_n 2, 1) := by decide +kernel
theorem dL_law_601 : decode cL_law 601 = .ok (.aload_n 0, 1) := by decide +kernel
theorem dL_law_602 : decode cL_law 602 = .ok (.iload_n 3, 1) := by decide +kernel
theorem dL_law_603 : decode cL_law 603 = .ok (.iconst 1, 1) := by decide +kernel
theorem dL_law_604 : decode cL_law 604 = .ok (.iadd, 1) := by decide +kernel
theorem dL_law_605 : decode cL_law 605 = .ok (.iaload, 1) := by decide +kernel
theorem dL_law_606 : decode cL_law 606 = .ok (.aload_n 0, 1) := by decide +kernel
theorem dL_law_607 : decode cL_law 607 = .ok (.iload_n 3, 1) := by decide +kernel
theorem dL_law_608 : decode cL_law 608 = .ok (.iconst 2, 1) := by decide +kernel
theorem dL_law_609 : decode cL_law 609 = .ok (.iadd, 1) := by decide +kernel
theorem dL_law_610 : decode cL_law 610 = .ok (.iaload, 1) := by decide +kernel
theorem dL_law_611 : decode cL_law 611 = .ok (.ifCond .eq 7, 3) := by decide +kernel
theorem dL_law_614 : decode cL_law 614 = .ok (.iconst 1, 1) := by decide +kernel
theorem dL_law_615 : decode cL_law 615 = .ok (.goto 4, 3) := by decide +kernel
theorem dL_law_618 : decode cL_law 618 = .ok (.iconst 0, 1) := by decide +kernel
theorem dL_law_619 : decode cL_law 619 = .ok (.invokevirtual 78, 3) := by decide +kernel
theorem dL_law_622 : decode cL_law 622 = .ok (.if_icmp .eq 240, 3) := by decide +kernel
theorem dL_law_625 : decode cL_law 625 = .ok (.iconst 0, 1) := by decide +kernel
theorem dL_law_626 : decode cL_law 626 = .ok (.ireturn, 1) := by decide +kernel
theorem dL_law_627 : decode cL_law 627 = .ok (.aload_n 1, 1) := by decide +kernel
theorem dL_law_628 : decode cL_law 628 = .ok (.aload_n 0, 1) := by decide +kernel
theorem dL_law_629 : decode cL_law 629 = .ok (.iload_n 3, 1) := by decide +kernel
theorem dL_law_630 : decode cL_law 630 = .ok (.iconst 1, 1) := by decide +kernel
theorem dL_law_631 : decode cL_law 631 = .ok (.iadd, 1) := by decide +kernel
theorem dL_law_632 : decode cL_law 632 = .ok (.iaload, 1) := by decide +kernel
theorem dL_law_633 : decode cL_law 633 = .ok (.aload_n 0, 1) := by decide +kernel
theorem dL_law_634 : decode cL_law 634 = .ok (.iload_n 3, 1) := by decide +kernel
theorem dL_law_635 : decode cL_law 635 = .ok (.iconst 2, 1) := by decide +kernel
theorem dL_law_636 : decode cL_law 636 = .ok (.iadd, 1) := by decide +kernel
theorem dL_law_637 : decode cL_law 637 = .ok (.iaload, 1) := by decide +kernel
theorem dL_law_638 : decode cL_law 638 = .ok (.invokevirtual 79, 3) := by decide +kernel
theorem dL_law_641 : decode cL_law 641 = .ok (.aload_n 2, 1) := by decide +kernel
theorem dL_law_642 : decode cL_law 642 = .ok (.aload_n 0, 1) := by decide +kernel
theorem dL_law_643 : decode cL_law 643 = .ok (.iload_n 3, 1) := by decide +kernel
theorem dL_law_644 : decode cL_law 644 = .ok (.iconst 1, 1) := by decide +kernel
theorem dL_law_645 : decode cL_law 645 = .ok (.iadd, 1) := by decide +kernel
theorem dL_law_646 : decode cL_law 646 = .ok (.iaload, 1) := by decide +kernel
theorem dL_law_647 : decode cL_law 647 = .ok (.aload_n 0, 1) := by decide +kernel
theorem dL_law_648 : decode cL_law 648 = .ok (.iload_n 3, 1) := by decide +kernel
theorem dL_law_649 : decode cL_law 649 = .ok (.iconst 2, 1) := by decide +kernel
theorem dL_law_650 : decode cL_law 650 = .ok (.iadd, 1) := by decide +kernel
theorem dL_law_651 : decode cL_law 651 = .ok (.iaload, 1) := by decide +kernel
theorem dL_law_652 : decode cL_law 652 = .ok (.invokevirtual 82, 3) := by decide +kernel
theorem dL_law_655 : decode cL_law 655 = .ok (.if_icmp .eq 207, 3) := by decide +kernel
theorem dL_law_658 : decode cL_law 658 = .ok (.iconst 0, 1) := by decide +kernel
theorem dL_law_659 : decode cL_law 659 = .ok (.ireturn, 1) := by decide +kernel
theorem dL_law_660 : decode cL_law 660 = .ok (.aload_n 1, 1) := by decide +kernel
theorem dL_law_661 : decode cL_law 661 = .ok (.invokevirtual 83, 3) := by decide +kernel
theorem dL_law_664 : decode cL_law 664 = .ok (.aload_n 2, 1) := by decide +kernel
theorem dL_law_665 : decode cL_law 665 = .ok (.invokevirtual 86, 3) := by decide +kernel
theorem dL_law_668 : decode cL_law 668 = .ok (.if_icmp .eq 194, 3) := by decide +kernel
theorem dL_law_671 : decode cL_law 671 = .ok (.iconst 0, 1) := by decide +kernel
theorem dL_law_672 : decode cL_law 672 = .ok (.ireturn, 1) := by decide +kernel
theorem dL_law_673 : decode cL_law 673 = .ok (.aload_n 1, 1) := by decide +kernel
theorem dL_law_674 : decode cL_law 674 = .ok (.invokevirtual 87, 3) := by decide +kernel
theorem dL_law_677 : decode cL_law 677 = .ok (.aload_n 2, 1) := by decide +kernel
theorem dL_law_678 : decode cL_law 678 = .ok (.invokevirtual 90, 3) := by decide +kernel
theorem dL_law_681 : decode cL_law 681 = .ok (.if_icmp .eq 181, 3) := by decide +kernel
theorem dL_law_684 : decode cL_law 684 = .ok (.iconst 0, 1) := by decide +kernel
theorem dL_law_685 : decode cL_law 685 = .ok (.ireturn, 1) := by decide +kernel
theorem dL_law_686 : decode cL_law 686 = .ok (.aload_n 1, 1) := by decide +kernel
theorem dL_law_687 : decode cL_law 687 = .ok (.aload_n 0, 1) := by decide +kernel
theorem dL_law_688 : decode cL_law 688 = .ok (.iload_n 3, 1) := by decide +kernel
theorem dL_law_689 : decode cL_law 689 = .ok (.iconst 1, 1) := by decide +kernel
theorem dL_law_690 : decode cL_law 690 = .ok (.iadd, 1) := by decide +kernel
theorem dL_law_691 : decode cL_law 691 = .ok (.iaload, 1) := by decide +kernel
theorem dL_law_692 : decode cL_law 692 = .ok (.ifCond .eq 7, 3) := by decide +kernel
theorem dL_law_695 : decode cL_law 695 = .ok (.iconst 1, 1) := by decide +kernel
theorem dL_law_696 : decode cL_law 696 = .ok (.goto 4, 3) := by decide +kernel
theorem dL_law_699 : decode cL_law 699 = .ok (.iconst 0, 1) := by decide +kernel
theorem dL_law_700 : decode cL_law 700 = .ok (.invokevirtual 91, 3) := by decide +kernel
theorem dL_law_703 : decode cL_law 703 = .ok (.aload_n 2, 1) := by decide +kernel
theorem dL_law_704 : decode cL_law 704 = .ok (.aload_n 0, 1) := by decide +kernel
theorem dL_law_705 : decode cL_law 705 = .ok (.iload_n 3, 1) := by decide +kernel
theorem dL_law_706 : decode cL_law 706 = .ok (.iconst 1, 1) := by decide +kernel
theorem dL_law_707 : decode cL_law 707 = .ok (.iadd, 1) := by decide +kernel
theorem dL_law_708 : decode cL_law 708 = .ok (.iaload, 1) := by decide +kernel
theorem dL_law_709 : decode cL_law 709 = .ok (.ifCond .eq 7, 3) := by decide +kernel
theorem dL_law_712 : decode cL_law 712 = .ok (.iconst 1, 1) := by decide +kernel
theorem dL_law_713 : decode cL_law 713 = .ok (.goto 4, 3) := by decide +kernel
theorem dL_law_716 : decode cL_law 716 = .ok (.iconst 0, 1) := by decide +kernel
theorem dL_law_717 : decode cL_law 717 = .ok (.invokevirtual 95, 3) := by decide +kernel
theorem dL_law_720 : decode cL_law 720 = .ok (.lcmp, 1) := by decide +kernel
theorem dL_law_721 : decode cL_law 721 = .ok (.ifCond .eq 141, 3) := by decide +kernel
theorem dL_law_724 : decode cL_law 724 = .ok (.iconst 0, 1) := by decide +kernel
theorem dL_law_725 : decode cL_law 725 = .ok (.ireturn, 1) := by decide +kernel
theorem dL_law_726 : decode cL_law 726 = .ok (.aload_n 1, 1) := by decide +kernel
theorem dL_law_727 : decode cL_law 727 = .ok (.aload_n 0, 1) := by decide +kernel
theorem dL_law_728 : decode cL_law 728 = .ok (.iload_n 3, 1) := by decide +kernel
theorem dL_law_729 : decode cL_law 729 = .ok (.iconst 1, 1) := by decide +kernel
theorem dL_law_730 : decode cL_law 730 = .ok (.iadd, 1) := by decide +kernel
theorem dL_law_731 : decode cL_law 731 = .ok (.iaload, 1) := by decide +kernel
theorem dL_law_732 : decode cL_law 732 = .ok (.aload_n 0, 1) := by decide +kernel
theorem dL_law_733 : decode cL_law 733 = .ok (.iload_n 3, 1) := by decide +kernel
theorem dL_law_734 : decode cL_law 734 = .ok (.iconst 2, 1) := by decide +kernel
theorem dL_law_735 : decode cL_law 735 = .ok (.iadd, 1) := by decide +kernel
theorem dL_law_736 : decode cL_law 736 = .ok (.iaload, 1) := by decide +kernel
theorem dL_law_737 : decode cL_law 737 = .ok (.ifCond .eq 7, 3) := by decide +kernel
theorem dL_law_740 : decode cL_law 740 = .ok (.iconst 1, 1) := by decide +kernel
theorem dL_law_741 : decode cL_law 741 = .ok (.goto 4, 3) := by decide +kernel
theorem dL_law_744 : decode cL_law 744 = .ok (.iconst 0, 1) := by decide +kernel
theorem dL_law_745 : decode cL_law 745 = .ok (.invokevirtual 96, 3) := by decide +kernel
theorem dL_law_748 : decode cL_law 748 = .ok (.aload_n 2, 1) := by decide +kernel
theorem dL_law_749 : decode cL_law 749 = .ok (.aload_n 0, 1) := by decide +kernel
theorem dL_law_750 : decode cL_law 750 = .ok (.iload_n 3, 1) := by decide +kernel
theorem dL_law_751 : decode cL_law 751 = .ok (.iconst 1, 1) := by decide +kernel
theorem dL_law_752 : decode cL_law 752 = .ok (.iadd, 1) := by decide +kernel
theorem dL_law_753 : decode cL_law 753 = .ok (.iaload, 1) := by decide +kernel
theorem dL_law_754 : decode cL_law 754 = .ok (.aload_n 0, 1) := by decide +kernel
theorem dL_law_755 : decode cL_law 755 = .ok (.iload_n 3, 1) := by decide +kernel
theorem dL_law_756 : decode cL_law 756 = .ok (.iconst 2, 1) := by decide +kernel
theorem dL_law_757 : decode cL_law 757 = .ok (.iadd, 1) := by decide +kernel
theorem dL_law_758 : decode cL_law 758 = .ok (.iaload, 1) := by decide +kernel
theorem dL_law_759 : decode cL_law 759 = .ok (.ifCond .eq 7, 3) := by decide +kernel
theorem dL_law_762 : decode cL_law 762 = .ok (.iconst 1, 1) := by decide +kernel
theorem dL_law_763 : decode cL_law 763 = .ok (.goto 4, 3) := by decide +kernel
theorem dL_law_766 : decode cL_law 766 = .ok (.iconst 0, 1) := by decide +kernel
theorem dL_law_767 : decode cL_law 767 = .ok (.invokevirtual 100, 3) := by decide +kernel
theorem dL_law_770 : decode cL_law 770 = .ok (.lcmp, 1) := by decide +kernel
theorem dL_law_771 : decode cL_law 771 = .ok (.ifCond .eq 91, 3) := by decide +kernel
theorem dL_law_774 : decode cL_law 774 = .ok (.iconst 0, 1) := by decide +kernel
theorem dL_law_775 : decode cL_law 775 = .ok (.ireturn, 1) := by decide +kernel
theorem dL_law_776 : decode cL_law 776 = .ok (.aload_n 1, 1) := by decide +kernel
theorem dL_law_777 : decode cL_law 777 = .ok (.aload_n 0, 1) := by decide +kernel
theorem dL_law_778 : decode cL_law 778 = .ok (.iload_n 3, 1) := by decide +kernel
theorem dL_law_779 : decode cL_law 779 = .ok (.iconst 1, 1) := by decide +kernel
theorem dL_law_780 : decode cL_law 780 = .ok (.iadd, 1) := by decide +kernel
theorem dL_law_781 : decode cL_law 781 = .ok (.iaload, 1) := by decide +kernel
theorem dL_law_782 : decode cL_law 782 = .ok (.invokevirtual 101, 3) := by decide +kernel
theorem dL_law_785 : decode cL_law 785 = .ok (.aload_n 2, 1) := by decide +kernel
theorem dL_law_786 : decode cL_law 786 = .ok (.aload_n 0, 1) := by decide +kernel
theorem dL_law_787 : decode cL_law 787 = .ok (.iload_n 3, 1) := by decide +kernel
theorem dL_law_788 : decode cL_law 788 = .ok (.iconst 1, 1) := by decide +kernel
theorem dL_law_789 : decode cL_law 789 = .ok (.iadd, 1) := by decide +kernel
theorem dL_law_790 : decode cL_law 790 = .ok (.iaload, 1) := by decide +kernel
theorem dL_law_791 : decode cL_law 791 = .ok (.invokevirtual 104, 3) := by decide +kernel
theorem dL_law_794 : decode cL_law 794 = .ok (.if_icmp .eq 68, 3) := by decide +kernel
theorem dL_law_797 : decode cL_law 797 = .ok (.iconst 0, 1) := by decide +kernel
theorem dL_law_798 : decode cL_law 798 = .ok (.ireturn, 1) := by decide +kernel
theorem dL_law_799 : decode cL_law 799 = .ok (.aload_n 1, 1) := by decide +kernel
theorem dL_law_800 : decode cL_law 800 = .ok (.aload_n 0, 1) := by decide +kernel
theorem dL_law_801 : decode cL_law 801 = .ok (.iload_n 3, 1) := by decide +kernel
theorem dL_law_802 : decode cL_law 802 = .ok (.iconst 1, 1) := by decide +kernel
theorem dL_law_803 : decode cL_law 803 = .ok (.iadd, 1) := by decide +kernel
theorem dL_law_804 : decode cL_law 804 = .ok (.iaload, 1) := by decide +kernel
theorem dL_law_805 : decode cL_law 805 = .ok (.ifCond .eq 7, 3) := by decide +kernel
theorem dL_law_808 : decode cL_law 808 = .ok (.iconst 1, 1) := by decide +kernel
theorem dL_law_809 : decode cL_law 809 = .ok (.goto 4, 3) := by decide +kernel
theorem dL_law_812 : decode cL_law 812 = .ok (.iconst 0, 1) := by decide +kernel
theorem dL_law_813 : decode cL_law 813 = .ok (.invokevirtual 105, 3) := by decide +kernel
theorem dL_law_816 : decode cL_law 816 = .ok (.aload_n 2, 1) := by decide +kernel
theorem dL_law_817 : decode cL_law 817 = .ok (.aload_n 0, 1) := by decide +kernel
theorem dL_law_818 : decode cL_law 818 = .ok (.iload_n 3, 1) := by decide +kernel
theorem dL_law_819 : decode cL_law 819 = .ok (.iconst 1, 1) := by decide +kernel
theorem dL_law_820 : decode cL_law 820 = .ok (.iadd, 1) := by decide +kernel
theorem dL_law_821 : decode cL_law 821 = .ok (.iaload, 1) := by decide +kernel
theorem dL_law_822 : decode cL_law 822 = .ok (.ifCond .eq 7, 3) := by decide +kernel
theorem dL_law_825 : decode cL_law 825 = .ok (.iconst 1, 1) := by decide +kernel
theorem dL_law_826 : decode cL_law 826 = .ok (.goto 4, 3) := by decide +kernel
theorem dL_law_829 : decode cL_law 829 = .ok (.iconst 0, 1) := by decide +kernel
theorem dL_law_830 : decode cL_law 830 = .ok (.invokevirtual 108, 3) := by decide +kernel
theorem dL_law_833 : decode cL_law 833 = .ok (.lcmp, 1) := by decide +kernel
theorem dL_law_834 : decode cL_law 834 = .ok (.ifCond .eq 28, 3) := by decide +kernel
theorem dL_law_837 : decode cL_law 837 = .ok (.iconst 0, 1) := by decide +kernel
theorem dL_law_838 : decode cL_law 838 = .ok (.ireturn, 1) := by decide +kernel
theorem dL_law_839 : decode cL_law 839 = .ok (.aload_n 1, 1) := by decide +kernel
theorem dL_law_840 : decode cL_law 840 = .ok (.aload_n 0, 1) := by decide +kernel
theorem dL_law_841 : decode cL_law 841 = .ok (.iload_n 3, 1) := by decide +kernel
theorem dL_law_842 : decode cL_law 842 = .ok (.iconst 1, 1) := by decide +kernel
theorem dL_law_843 : decode cL_law 843 = .ok (.iadd, 1) := by decide +kernel
theorem dL_law_844 : decode cL_law 844 = .ok (.iaload, 1) := by decide +kernel
theorem dL_law_845 : decode cL_law 845 = .ok (.invokevirtual 109, 3) := by decide +kernel
theorem dL_law_848 : decode cL_law 848 = .ok (.aload_n 2, 1) := by decide +kernel
theorem dL_law_849 : decode cL_law 849 = .ok (.aload_n 0, 1) := by decide +kernel
theorem dL_law_850 : decode cL_law 850 = .ok (.iload_n 3, 1) := by decide +kernel
theorem dL_law_851 : decode cL_law 851 = .ok (.iconst 1, 1) := by decide +kernel
theorem dL_law_852 : decode cL_law 852 = .ok (.iadd, 1) := by decide +kernel
theorem dL_law_853 : decode cL_law 853 = .ok (.iaload, 1) := by decide +kernel
theorem dL_law_854 : decode cL_law 854 = .ok (.invokevirtual 112, 3) := by decide +kernel
theorem dL_law_857 : decode cL_law 857 = .ok (.if_icmp .eq 5, 3) := by decide +kernel
theorem dL_law_860 : decode cL_law 860 = .ok (.iconst 0, 1) := by decide +kernel
theorem dL_law_861 : decode cL_law 861 = .ok (.ireturn, 1) := by decide +kernel
theorem dL_law_862 : decode cL_law 862 = .ok (.iinc 3 5, 3) := by decide +kernel
theorem dL_law_865 : decode cL_law 865 = .ok (.goto (-847), 3) := by decide +kernel
theorem dL_law_868 : decode cL_law 868 = .ok (.iconst 1, 1) := by decide +kernel
theorem dL_law_869 : decode cL_law 869 = .ok (.ireturn, 1) := by decide +kernel
end
section
/-! what a run comes to, as a proposition that rewrites -/
def jj_Ex (d : Nat) (M : jj_M) (pc : Nat) (lc st : List Value) (h : jj_Hp) (Q : Option Value → jj_Hp → Prop) : Prop := ∃ n r h', jj_exec n d M pc lc st h = some (r, h') ∧ Q r h'
def jj_Ca (d : Nat) (M : jj_M) (vs : List Value) (h : jj_Hp) (Q : Option Value → jj_Hp → Prop) : Prop := jj_Ex d M 0 (jj_ent vs M.2.1) [] h Q
def jj_body (f : Nat → jj_M → Nat → List Value → List Value → jj_Hp → Option (Option Value × jj_Hp)) (d : Nat) (M : jj_M) (pc : Nat) (lc st : List Value) (h : jj_Hp) : Option (Option Value × jj_Hp) := match decode M.1.2 pc with
    | .ok (ins, len) => if jj_len ins len = len then
        match jj_fin M.2.2.1 ins st with
        | some r => some (r, h)
        | none => match jj_cal M.2.2.2.1 ins st with
          | some q => if jj_cok q then
              match d with
              | 0 => none
              | d' + 1 => match f d' q.1 0 (jj_ent q.2.1 q.1.2.1) [] h with
                | some (r, h1) => f (d' + 1) M (pc + 3) lc (r.toList ++ q.2.2) h1
                | none => none
              else none
          | none => match jj_st M.2.2.2.1 ins pc lc st h with
            | some p => f d M p.1 p.2.1 p.2.2.1 p.2.2.2
            | none => none
        else none
    | _ => none
theorem jj_exec_succ (n d : Nat) (M : jj_M) (pc : Nat) (lc st : List Value) (h : jj_Hp) : jj_exec (n + 1) d M pc lc st h = jj_body (jj_exec n) d M pc lc st h := rfl
theorem jj_body_inv {f : Nat → jj_M → Nat → List Value → List Value → jj_Hp → Option (Option Value × jj_Hp)} {d : Nat} {M : jj_M} {pc : Nat} {lc st : List Value} {h : jj_Hp} {x : Option Value × jj_Hp} (hx : jj_body f d M pc lc st h = some x) :
    ∃ ins len, decode M.1.2 pc = .ok (ins, len) ∧ jj_len ins len = len ∧ ((∃ r, jj_fin M.2.2.1 ins st = some r ∧ x = (r, h)) ∨ (jj_fin M.2.2.1 ins st = none ∧ ∃ q d' r h1, jj_cal M.2.2.2.1 ins st = some q ∧ jj_cok q = true ∧ d = d' + 1 ∧ f d' q.1 0 (jj_ent q.2.1 q.1.2.1) [] h = some (r, h1) ∧ f (d' + 1) M (pc + 3) lc (r.toList ++ q.2.2) h1 = some x) ∨ (jj_fin M.2.2.1 ins st = none ∧ jj_cal M.2.2.2.1 ins st = none ∧ ∃ P, jj_st M.2.2.2.1 ins pc lc st h = some P ∧ f d M P.1 P.2.1 P.2.2.1 P.2.2.2 = some x)) := by
  unfold jj_body at hx
  split at hx
  · next ins len hd =>
    split at hx
    · next hlen =>
      refine ⟨ins, len, hd, hlen, ?_⟩
      split at hx
      · next r hf =>
        cases hx
        exact Or.inl ⟨r, hf, rfl⟩
      · next hf =>
        split at hx
        · next q hq =>
          split at hx
          · next hc =>
            cases d with
            | zero => cases hx
            | succ d' =>
              dsimp only at hx
              split at hx
              · next r h1 hcall => exact Or.inr (Or.inl ⟨hf, q, d', r, h1, hq, hc, rfl, hcall, hx⟩)
              · cases hx
          · cases hx
        · next hq =>
          split at hx
          · next P hP => exact Or.inr (Or.inr ⟨hf, hq, P, hP, hx⟩)
          · cases hx
    · cases hx
  · cases hx
theorem jj_body_fin {f : Nat → jj_M → Nat → List Value → List Value → jj_Hp → Option (Option Value × jj_Hp)} {d : Nat} {M : jj_M} {pc len : Nat} {ins : Instr} {lc st : List Value} {h : jj_Hp} {r : Option Value} (hd : decode M.1.2 pc = .ok (ins, len)) (hl : jj_len ins len = len) (hf : jj_fin M.2.2.1 ins st = some r) : jj_body f d M pc lc st h = some (r, h) := by
  unfold jj_body
  rw [hd]
  dsimp only
  rw [if_pos hl, hf]
theorem jj_body_st {f : Nat → jj_M → Nat → List Value → List Value → jj_Hp → Option (Option Value × jj_Hp)} {d : Nat} {M : jj_M} {pc len : Nat} {ins : Instr} {lc st : List Value} {h : jj_Hp} {P : jj_P} (hd : decode M.1.2 pc = .ok (ins, len)) (hl : jj_len ins len = len) (hf : jj_fin M.2.2.1 ins st = none) (hc : jj_cal M.2.2.2.1 ins st = none) (hs : jj_st M.2.2.2.1 ins pc lc st h = some P) : jj_body f d M pc lc st h = f d M P.1 P.2.1 P.2.2.1 P.2.2.2 := by
  unfold jj_body
  rw [hd]
  dsimp only
  rw [if_pos hl, hf]
  dsimp only
  rw [hc]
  dsimp only
  rw [hs]
theorem jj_body_call {f : Nat → jj_M → Nat → List Value → List Value → jj_Hp → Option (Option Value × jj_Hp)} {d : Nat} {M : jj_M} {pc len : Nat} {ins : Instr} {lc st : List Value} {h h1 : jj_Hp} {r : Option Value} {q : jj_M × List Value × List Value} (hd : decode M.1.2 pc = .ok (ins, len)) (hl : jj_len ins len = len) (hf : jj_fin M.2.2.1 ins st = none) (hc : jj_cal M.2.2.2.1 ins st = some q) (hk : jj_cok q = true) (hcall : f d q.1 0 (jj_ent q.2.1 q.1.2.1) [] h = some (r, h1)) : jj_body f (d + 1) M pc lc st h = f (d + 1) M (pc + 3) lc (r.toList ++ q.2.2) h1 := by
  unfold jj_body
  rw [hd]
  dsimp only
  rw [if_pos hl, hf]
  dsimp only
  rw [hc]
  dsimp only
  rw [if_pos hk, hcall]
theorem jj_mono1 : ∀ (n d : Nat) (M : jj_M) (pc : Nat) (lc st : List Value) (h : jj_Hp) (x : Option Value × jj_Hp), jj_exec n d M pc lc st h = some x → jj_exec (n + 1) d M pc lc st h = some x
  | 0, d, M, pc, lc, st, h, x, hx => by cases hx
  | n + 1, d, M, pc, lc, st, h, x, hx => by
    rw [jj_exec_succ] at hx
    rw [jj_exec_succ]
    obtain ⟨ins, len, hd, hl, ⟨r, hf, rfl⟩ | ⟨hf, q, d', r, h1, hc, hk, rfl, hcall, hx⟩ | ⟨hf, hc, P, hP, hx⟩⟩ := jj_body_inv hx
    · exact jj_body_fin hd hl hf
    · rw [jj_body_call hd hl hf hc hk (jj_mono1 n _ _ _ _ _ _ _ hcall)]
      exact jj_mono1 n _ _ _ _ _ _ _ hx
    · rw [jj_body_st hd hl hf hc hP]
      exact jj_mono1 n _ _ _ _ _ _ _ hx
theorem jj_mono {n n' d : Nat} {M : jj_M} {pc : Nat} {lc st : List Value} {h : jj_Hp} {x : Option Value × jj_Hp} (hn : n ≤ n') (hx : jj_exec n d M pc lc st h = some x) : jj_exec n' d M pc lc st h = some x := by
  induction hn with
  | refl => exact hx
  | step _ ih => exact jj_mono1 _ _ _ _ _ _ _ _ ih
theorem jj_deep1 : ∀ (n d : Nat) (M : jj_M) (pc : Nat) (lc st : List Value) (h : jj_Hp) (x : Option Value × jj_Hp), jj_exec n d M pc lc st h = some x → jj_exec n (d + 1) M pc lc st h = some x
  | 0, d, M, pc, lc, st, h, x, hx => by cases hx
  | n + 1, d, M, pc, lc, st, h, x, hx => by
    rw [jj_exec_succ] at hx
    rw [jj_exec_succ]
    obtain ⟨ins, len, hd, hl, ⟨r, hf, rfl⟩ | ⟨hf, q, d', r, h1, hc, hk, rfl, hcall, hx⟩ | ⟨hf, hc, P, hP, hx⟩⟩ := jj_body_inv hx
    · exact jj_body_fin hd hl hf
    · rw [jj_body_call hd hl hf hc hk (jj_deep1 n _ _ _ _ _ _ _ hcall)]
      exact jj_deep1 n _ _ _ _ _ _ _ hx
    · rw [jj_body_st hd hl hf hc hP]
      exact jj_deep1 n _ _ _ _ _ _ _ hx
theorem jj_deep {n d d' : Nat} {M : jj_M} {pc : Nat} {lc st : List Value} {h : jj_Hp} {x : Option Value × jj_Hp} (hn : d ≤ d') (hx : jj_exec n d M pc lc st h = some x) : jj_exec n d' M pc lc st h = some x := by
  induction hn with
  | refl => exact hx
  | step _ ih => exact jj_deep1 _ _ _ _ _ _ _ _ ih
theorem jj_Ex.deep {d d' : Nat} {M : jj_M} {pc : Nat} {lc st : List Value} {h : jj_Hp} {Q : Option Value → jj_Hp → Prop} (hn : d ≤ d') (hx : jj_Ex d M pc lc st h Q) : jj_Ex d' M pc lc st h Q := by
  obtain ⟨n, r, h', a, b⟩ := hx
  exact ⟨n, r, h', jj_deep hn a, b⟩
theorem jj_Ex.imp {d : Nat} {M : jj_M} {pc : Nat} {lc st : List Value} {h : jj_Hp} {Q Q' : Option Value → jj_Hp → Prop} (hx : jj_Ex d M pc lc st h Q) (hQ : ∀ r h', Q r h' → Q' r h') : jj_Ex d M pc lc st h Q' := by
  obtain ⟨n, r, h', a, b⟩ := hx
  exact ⟨n, r, h', a, hQ _ _ b⟩
theorem jj_Ca.deep {d d' : Nat} {M : jj_M} {vs : List Value} {h : jj_Hp} {Q : Option Value → jj_Hp → Prop} (hn : d ≤ d') (hx : jj_Ca d M vs h Q) : jj_Ca d' M vs h Q := jj_Ex.deep hn hx
theorem jj_Ca.imp {d : Nat} {M : jj_M} {vs : List Value} {h : jj_Hp} {Q Q' : Option Value → jj_Hp → Prop} (hx : jj_Ca d M vs h Q) (hQ : ∀ r h', Q r h' → Q' r h') : jj_Ca d M vs h Q' := jj_Ex.imp hx hQ
/-- an instruction that neither calls nor returns -/
theorem jj_xs {d : Nat} {M : jj_M} {pc len : Nat} {ins : Instr} {lc st : List Value} {h : jj_Hp} {Q : Option Value → jj_Hp → Prop} {P : jj_P} (hd : decode M.1.2 pc = .ok (ins, len)) (hl : jj_len ins len = len) (hf : jj_fin M.2.2.1 ins st = none) (hc : jj_cal M.2.2.2.1 ins st = none) (hs : jj_st M.2.2.2.1 ins pc lc st h = some P) :
    jj_Ex d M pc lc st h Q = jj_Ex d M P.1 P.2.1 P.2.2.1 P.2.2.2 Q := by
  have key : ∀ n, jj_exec (n + 1) d M pc lc st h = jj_exec n d M P.1 P.2.1 P.2.2.1 P.2.2.2 := by
    intro n
    rw [jj_exec_succ]
    exact jj_body_st hd hl hf hc hs
  apply propext
  constructor
  · rintro ⟨n, r, h', a, b⟩
    cases n with
    | zero => cases a
    | succ n => exact ⟨n, r, h', (key n).symm.trans a, b⟩
  · rintro ⟨n, r, h', a, b⟩
    exact ⟨n + 1, r, h', (key n).trans a, b⟩
theorem jj_xf {d : Nat} {M : jj_M} {pc len : Nat} {ins : Instr} {lc st : List Value} {h : jj_Hp} {Q : Option Value → jj_Hp → Prop} {r : Option Value} (hd : decode M.1.2 pc = .ok (ins, len)) (hl : jj_len ins len = len) (hf : jj_fin M.2.2.1 ins st = some r) :
    jj_Ex d M pc lc st h Q = Q r h := by
  have key : ∀ n, jj_exec (n + 1) d M pc lc st h = some (r, h) := by
    intro n
    rw [jj_exec_succ]
    exact jj_body_fin hd hl hf
  apply propext
  constructor
  · rintro ⟨n, r', h', a, b⟩
    cases n with
    | zero => cases a
    | succ n =>
      have := (key n).symm.trans a
      cases this
      exact b
  · intro b
    exact ⟨1, r, h, key 0, b⟩
theorem jj_xc {d : Nat} {M M' : jj_M} {pc len : Nat} {ins : Instr} {lc st vs rest : List Value} {h : jj_Hp} {Q : Option Value → jj_Hp → Prop} (hd : decode M.1.2 pc = .ok (ins, len)) (hl : jj_len ins len = len) (hf : jj_fin M.2.2.1 ins st = none) (hc : jj_cal M.2.2.2.1 ins st = some (M', vs, rest)) (hk : jj_cok (M', vs, rest) = true) :
    jj_Ex (d + 1) M pc lc st h Q = jj_Ca d M' vs h (fun r h1 => jj_Ex (d + 1) M (pc + 3) lc (r.toList ++ rest) h1 Q) := by
  apply propext
  constructor
  · rintro ⟨n, r, h', a, b⟩
    cases n with
    | zero => cases a
    | succ n =>
      rw [jj_exec_succ] at a
      obtain ⟨ins', len', hd', hl', ⟨r2, hf', h2⟩ | ⟨hf', q, d', r2, h1, hc', hk', e, hcall, hx⟩ | ⟨hf', hc', P, hP, hx⟩⟩ := jj_body_inv a
      · rw [hd] at hd'; cases hd'; rw [hf] at hf'; cases hf'
      · rw [hd] at hd'; cases hd'; rw [hc] at hc'; cases hc'; cases e
        exact ⟨n, r2, h1, hcall, n, r, h', hx, b⟩
      · rw [hd] at hd'; cases hd'; rw [hc] at hc'; cases hc'
  · rintro ⟨n1, r1, h1, a1, n2, r, h', a, b⟩
    refine ⟨max n1 n2 + 1, r, h', ?_, b⟩
    rw [jj_exec_succ, jj_body_call hd hl hf hc hk (jj_mono (Nat.le_max_left n1 n2) a1)]
    exact jj_mono (Nat.le_max_right n1 n2) a
/-! the same with whole numbers for the machine's -/
def iv (z : Int) : Value := .int (Int32.ofInt z)
def lv (z : Int) : Value := .long (Int64.ofInt z)
def jj_h (Z Y : Nat → Nat → Int) (S : Nat × (Nat → Int32)) : jj_Hp := (fun a k => Int32.ofInt (Z a k), fun a k => Int64.ofInt (Y a k), S)
def zu (Z : Nat → Nat → Int) (a k : Nat) (v : Int) : Nat → Nat → Int := fun a' k' => if a' = a ∧ k' = k then v else Z a' k'
theorem iu_h (Z Y : Nat → Nat → Int) (S : Nat × (Nat → Int32)) (a k : Nat) (v : Int) : jj_iu (jj_h Z Y S) a k (Int32.ofInt v) = jj_h (zu Z a k v) Y S := by
  unfold jj_iu jj_h
  refine Prod.ext ?_ rfl
  funext a' k'
  show (if a' = a then upd (fun k => Int32.ofInt (Z a k)) k (Int32.ofInt v) else fun k => Int32.ofInt (Z a' k)) k' = Int32.ofInt (zu Z a k v a' k')
  unfold zu
  by_cases h1 : a' = a
  · subst h1
    rw [if_pos rfl]
    unfold upd
    by_cases h2 : k' = k
    · rw [if_pos h2, if_pos ⟨rfl, h2⟩]
    · rw [if_neg h2, if_neg (fun q => h2 q.2)]
  · rw [if_neg h1, if_neg (fun q => h1 q.1)]
theorem lu_h (Z Y : Nat → Nat → Int) (S : Nat × (Nat → Int32)) (a k : Nat) (v : Int) : jj_lu (jj_h Z Y S) a k (Int64.ofInt v) = jj_h Z (zu Y a k v) S := by
  unfold jj_lu jj_h
  refine Prod.ext rfl (Prod.ext ?_ rfl)
  funext a' k'
  show (if a' = a then vp_updL (fun k => Int64.ofInt (Y a k)) k (Int64.ofInt v) else fun k => Int64.ofInt (Y a' k)) k' = Int64.ofInt (zu Y a k v a' k')
  unfold zu
  by_cases h1 : a' = a
  · subst h1
    rw [if_pos rfl]
    unfold vp_updL
    by_cases h2 : k' = k
    · rw [if_pos h2, if_pos ⟨rfl, h2⟩]
    · rw [if_neg h2, if_neg (fun q => h2 q.2)]
  · rw [if_neg h1, if_neg (fun q => h1 q.1)]
theorem i_toInt {z : Int} (h : -2147483648 ≤ z ∧ z ≤ 2147483647) : (Int32.ofInt z).toInt = z := Int32.toInt_ofInt_of_le (by omega) (by omega)
theorem l_toInt {z : Int} (h : -9223372036854775808 ≤ z ∧ z ≤ 9223372036854775807) : (Int64.ofInt z).toInt = z := Int64.toInt_ofInt_of_le (by omega) (by omega)
theorem i_lt {x y : Int} (hx : -2147483648 ≤ x ∧ x ≤ 2147483647) (hy : -2147483648 ≤ y ∧ y ≤ 2147483647) : Int32.ofInt x < Int32.ofInt y ↔ x < y := by
  rw [Int32.lt_iff_toInt_lt, i_toInt hx, i_toInt hy]
theorem i_le {x y : Int} (hx : -2147483648 ≤ x ∧ x ≤ 2147483647) (hy : -2147483648 ≤ y ∧ y ≤ 2147483647) : Int32.ofInt x ≤ Int32.ofInt y ↔ x ≤ y := by
  rw [Int32.le_iff_toInt_le, i_toInt hx, i_toInt hy]
theorem i_eq {x y : Int} (hx : -2147483648 ≤ x ∧ x ≤ 2147483647) (hy : -2147483648 ≤ y ∧ y ≤ 2147483647) : Int32.ofInt x = Int32.ofInt y ↔ x = y := by
  rw [← Int32.toInt_inj, i_toInt hx, i_toInt hy]
theorem l_lt {x y : Int} (hx : -9223372036854775808 ≤ x ∧ x ≤ 9223372036854775807) (hy : -9223372036854775808 ≤ y ∧ y ≤ 9223372036854775807) : Int64.ofInt x < Int64.ofInt y ↔ x < y := by
  rw [Int64.lt_iff_toInt_lt, l_toInt hx, l_toInt hy]
theorem l_eq {x y : Int} (hx : -9223372036854775808 ≤ x ∧ x ≤ 9223372036854775807) (hy : -9223372036854775808 ≤ y ∧ y ≤ 9223372036854775807) : Int64.ofInt x = Int64.ofInt y ↔ x = y := by
  rw [← Int64.toInt_inj, l_toInt hx, l_toInt hy]
theorem i_clamp {z : Int} (h : 0 ≤ z ∧ z ≤ 2147483647) : (Int32.ofInt z).toNatClampNeg = z.toNat := by
  show (Int32.ofInt z).toInt.toNat = z.toNat
  rw [i_toInt (by omega)]
theorem i_inb {z : Int} {n : Nat} (h : 0 ≤ z) (hn : z < n) (h2 : n ≤ 2147483647) : jj_inb (Int32.ofInt z) n = true := by
  unfold jj_inb
  rw [i_clamp (by omega)]
  simp only [Bool.and_eq_true, decide_eq_true_eq]
  refine ⟨?_, by omega⟩
  have := (i_le (x := 0) (y := z) (by omega) (by omega)).mpr h
  exact this
end
section
/-! each instruction, goal first, over whole numbers -/
theorem o_add (x y : Int) : Int32.ofInt x + Int32.ofInt y = Int32.ofInt (x + y) := (Int32.ofInt_add x y).symm
theorem o_sub (x y : Int) : Int32.ofInt x - Int32.ofInt y = Int32.ofInt (x - y) := (Int32.ofInt_sub x y).symm
theorem o_mul (x y : Int) : Int32.ofInt x * Int32.ofInt y = Int32.ofInt (x * y) := (Int32.ofInt_mul x y).symm
theorem o_neg (x : Int) : - Int32.ofInt x = Int32.ofInt (-x) := (Int32.ofInt_neg x).symm
theorem q_add (x y : Int) : Int64.ofInt x + Int64.ofInt y = Int64.ofInt (x + y) := (Int64.ofInt_add x y).symm
theorem q_sub (x y : Int) : Int64.ofInt x - Int64.ofInt y = Int64.ofInt (x - y) := (Int64.ofInt_sub x y).symm
theorem q_mul (x y : Int) : Int64.ofInt x * Int64.ofInt y = Int64.ofInt (x * y) := (Int64.ofInt_mul x y).symm
theorem q_neg (x : Int) : - Int64.ofInt x = Int64.ofInt (-x) := (Int64.ofInt_neg x).symm
theorem o_div {x y : Int} (hx : -2147483647 ≤ x ∧ x ≤ 2147483647) (hy : -2147483648 ≤ y ∧ y ≤ 2147483647) : Int32.ofInt x / Int32.ofInt y = Int32.ofInt (x.tdiv y) := by
  apply Int32.toInt_inj.mp
  rw [Int32.toInt_div_of_ne_left _ _ (by
    intro q
    have := congrArg Int32.toInt q
    rw [i_toInt (by omega)] at this
    have h2 : Int32.minValue.toInt = -2147483648 := by decide
    omega), i_toInt (by omega), i_toInt hy]
  have hb : -2147483647 ≤ x.tdiv y ∧ x.tdiv y ≤ 2147483647 := by
    have h1 := Int.natAbs_tdiv_le_natAbs x y
    omega
  rw [i_toInt (by omega)]
theorem q_div {x y : Int} (hx : -9223372036854775807 ≤ x ∧ x ≤ 9223372036854775807) (hy : -9223372036854775808 ≤ y ∧ y ≤ 9223372036854775807) : Int64.ofInt x / Int64.ofInt y = Int64.ofInt (x.tdiv y) := by
  apply Int64.toInt_inj.mp
  rw [Int64.toInt_div_of_ne_left _ _ (by
    intro q
    have := congrArg Int64.toInt q
    rw [l_toInt (by omega)] at this
    have h2 : Int64.minValue.toInt = -9223372036854775808 := by decide
    omega), l_toInt (by omega), l_toInt hy]
  have hb : -9223372036854775807 ≤ x.tdiv y ∧ x.tdiv y ≤ 9223372036854775807 := by
    have h1 := Int.natAbs_tdiv_le_natAbs x y
    omega
  rw [l_toInt (by omega)]
theorem xo_iconst {d : Nat} {M : jj_M} {pc : Nat} {lc st : List Value} {Z Y : Nat → Nat → Int} {S : Nat × (Nat → Int32)} {Q : Option Value → jj_Hp → Prop} {q z : Int} (hd : decode M.1.2 pc = .ok (.iconst q, 1)) (hz : q = z) (k : jj_Ex d M (pc + 1) lc (iv z :: st) (jj_h Z Y S) Q) : jj_Ex d M pc lc st (jj_h Z Y S) Q := by
  subst hz
  rw [jj_xs hd rfl rfl rfl rfl]
  exact k
theorem xo_bipush {d : Nat} {M : jj_M} {pc : Nat} {lc st : List Value} {Z Y : Nat → Nat → Int} {S : Nat × (Nat → Int32)} {Q : Option Value → jj_Hp → Prop} {q z : Int} (hd : decode M.1.2 pc = .ok (.bipush q, 2)) (hz : (Int8.ofInt q).toInt32 = Int32.ofInt z) (k : jj_Ex d M (pc + 2) lc (iv z :: st) (jj_h Z Y S) Q) : jj_Ex d M pc lc st (jj_h Z Y S) Q := by
  rw [jj_xs hd rfl rfl rfl rfl]
  unfold iv at k
  rw [← hz] at k
  exact k
theorem xo_sipush {d : Nat} {M : jj_M} {pc : Nat} {lc st : List Value} {Z Y : Nat → Nat → Int} {S : Nat × (Nat → Int32)} {Q : Option Value → jj_Hp → Prop} {q z : Int} (hd : decode M.1.2 pc = .ok (.sipush q, 3)) (hz : (Int16.ofInt q).toInt32 = Int32.ofInt z) (k : jj_Ex d M (pc + 3) lc (iv z :: st) (jj_h Z Y S) Q) : jj_Ex d M pc lc st (jj_h Z Y S) Q := by
  rw [jj_xs hd rfl rfl rfl rfl]
  unfold iv at k
  rw [← hz] at k
  exact k
theorem xo_lconst {d : Nat} {M : jj_M} {pc : Nat} {lc st : List Value} {Z Y : Nat → Nat → Int} {S : Nat × (Nat → Int32)} {Q : Option Value → jj_Hp → Prop} {q : Fin 2} {z : Int} (hd : decode M.1.2 pc = .ok (.lconst q, 1)) (hz : Int64.ofNat (q : Nat) = Int64.ofInt z) (k : jj_Ex d M (pc + 1) lc (lv z :: st) (jj_h Z Y S) Q) : jj_Ex d M pc lc st (jj_h Z Y S) Q := by
  rw [jj_xs hd rfl rfl rfl rfl]
  unfold lv at k
  rw [← hz] at k
  exact k
theorem xo_ldc {d : Nat} {M : jj_M} {pc : Nat} {lc st : List Value} {Z Y : Nat → Nat → Int} {S : Nat × (Nat → Int32)} {Q : Option Value → jj_Hp → Prop} {i : Nat} {z : Int} (hd : decode M.1.2 pc = .ok (.ldc i, 2)) (hz : jj_ldc M.2.2.2.1 i = some (Int32.ofInt z)) (k : jj_Ex d M (pc + 2) lc (iv z :: st) (jj_h Z Y S) Q) : jj_Ex d M pc lc st (jj_h Z Y S) Q := by
  rw [jj_xs (P := (pc + 2, lc, iv z :: st, jj_h Z Y S)) hd rfl rfl rfl (by show (jj_ldc M.2.2.2.1 i).map _ = _; rw [hz]; rfl)]
  exact k
theorem xo_ldc_w {d : Nat} {M : jj_M} {pc : Nat} {lc st : List Value} {Z Y : Nat → Nat → Int} {S : Nat × (Nat → Int32)} {Q : Option Value → jj_Hp → Prop} {i : Nat} {z : Int} (hd : decode M.1.2 pc = .ok (.ldc_w i, 3)) (hz : jj_ldc M.2.2.2.1 i = some (Int32.ofInt z)) (k : jj_Ex d M (pc + 3) lc (iv z :: st) (jj_h Z Y S) Q) : jj_Ex d M pc lc st (jj_h Z Y S) Q := by
  rw [jj_xs (P := (pc + 3, lc, iv z :: st, jj_h Z Y S)) hd rfl rfl rfl (by show (jj_ldc M.2.2.2.1 i).map _ = _; rw [hz]; rfl)]
  exact k
theorem xo_ldc2_w {d : Nat} {M : jj_M} {pc : Nat} {lc st : List Value} {Z Y : Nat → Nat → Int} {S : Nat × (Nat → Int32)} {Q : Option Value → jj_Hp → Prop} {i : Nat} {z : Int} (hd : decode M.1.2 pc = .ok (.ldc2_w i, 3)) (hz : jj_ldl M.2.2.2.1 i = some (Int64.ofInt z)) (k : jj_Ex d M (pc + 3) lc (lv z :: st) (jj_h Z Y S) Q) : jj_Ex d M pc lc st (jj_h Z Y S) Q := by
  rw [jj_xs (P := (pc + 3, lc, lv z :: st, jj_h Z Y S)) hd rfl rfl rfl (by show (jj_ldl M.2.2.2.1 i).map _ = _; rw [hz]; rfl)]
  exact k
theorem xo_iload {d : Nat} {M : jj_M} {pc : Nat} {lc st : List Value} {Z Y : Nat → Nat → Int} {S : Nat × (Nat → Int32)} {Q : Option Value → jj_Hp → Prop} {i : Nat} {x : Int} (hd : decode M.1.2 pc = .ok (.iload i, 2)) (hg : jj_gi lc i = some (Int32.ofInt x)) (k : jj_Ex d M (pc + 2) lc (iv x :: st) (jj_h Z Y S) Q) : jj_Ex d M pc lc st (jj_h Z Y S) Q := by
  rw [jj_xs (P := (pc + 2, lc, iv x :: st, jj_h Z Y S)) hd rfl rfl rfl (by show (jj_gi lc i).map _ = _; rw [hg]; rfl)]
  exact k
theorem xo_iload_n {d : Nat} {M : jj_M} {pc : Nat} {lc st : List Value} {Z Y : Nat → Nat → Int} {S : Nat × (Nat → Int32)} {Q : Option Value → jj_Hp → Prop} {i : Fin 4} {x : Int} (hd : decode M.1.2 pc = .ok (.iload_n i, 1)) (hg : jj_gi lc i = some (Int32.ofInt x)) (k : jj_Ex d M (pc + 1) lc (iv x :: st) (jj_h Z Y S) Q) : jj_Ex d M pc lc st (jj_h Z Y S) Q := by
  rw [jj_xs (P := (pc + 1, lc, iv x :: st, jj_h Z Y S)) hd rfl rfl rfl (by show (jj_gi lc i).map _ = _; rw [hg]; rfl)]
  exact k
theorem xo_lload {d : Nat} {M : jj_M} {pc : Nat} {lc st : List Value} {Z Y : Nat → Nat → Int} {S : Nat × (Nat → Int32)} {Q : Option Value → jj_Hp → Prop} {i : Nat} {x : Int} (hd : decode M.1.2 pc = .ok (.lload i, 2)) (hg : jj_gl lc i = some (Int64.ofInt x)) (k : jj_Ex d M (pc + 2) lc (lv x :: st) (jj_h Z Y S) Q) : jj_Ex d M pc lc st (jj_h Z Y S) Q := by
  rw [jj_xs (P := (pc + 2, lc, lv x :: st, jj_h Z Y S)) hd rfl rfl rfl (by show (jj_gl lc i).map _ = _; rw [hg]; rfl)]
  exact k
theorem xo_lload_n {d : Nat} {M : jj_M} {pc : Nat} {lc st : List Value} {Z Y : Nat → Nat → Int} {S : Nat × (Nat → Int32)} {Q : Option Value → jj_Hp → Prop} {i : Fin 4} {x : Int} (hd : decode M.1.2 pc = .ok (.lload_n i, 1)) (hg : jj_gl lc i = some (Int64.ofInt x)) (k : jj_Ex d M (pc + 1) lc (lv x :: st) (jj_h Z Y S) Q) : jj_Ex d M pc lc st (jj_h Z Y S) Q := by
  rw [jj_xs (P := (pc + 1, lc, lv x :: st, jj_h Z Y S)) hd rfl rfl rfl (by show (jj_gl lc i).map _ = _; rw [hg]; rfl)]
  exact k
theorem xo_aload {d : Nat} {M : jj_M} {pc : Nat} {lc st : List Value} {Z Y : Nat → Nat → Int} {S : Nat × (Nat → Int32)} {Q : Option Value → jj_Hp → Prop} {i : Nat} {x : Nat} (hd : decode M.1.2 pc = .ok (.aload i, 2)) (hg : jj_gr lc i = some (x)) (k : jj_Ex d M (pc + 2) lc (.ref x :: st) (jj_h Z Y S) Q) : jj_Ex d M pc lc st (jj_h Z Y S) Q := by
  rw [jj_xs (P := (pc + 2, lc, .ref x :: st, jj_h Z Y S)) hd rfl rfl rfl (by show (jj_gr lc i).map _ = _; rw [hg]; rfl)]
  exact k
theorem xo_aload_n {d : Nat} {M : jj_M} {pc : Nat} {lc st : List Value} {Z Y : Nat → Nat → Int} {S : Nat × (Nat → Int32)} {Q : Option Value → jj_Hp → Prop} {i : Fin 4} {x : Nat} (hd : decode M.1.2 pc = .ok (.aload_n i, 1)) (hg : jj_gr lc i = some (x)) (k : jj_Ex d M (pc + 1) lc (.ref x :: st) (jj_h Z Y S) Q) : jj_Ex d M pc lc st (jj_h Z Y S) Q := by
  rw [jj_xs (P := (pc + 1, lc, .ref x :: st, jj_h Z Y S)) hd rfl rfl rfl (by show (jj_gr lc i).map _ = _; rw [hg]; rfl)]
  exact k
theorem xo_istore {d : Nat} {M : jj_M} {pc : Nat} {lc st : List Value} {Z Y : Nat → Nat → Int} {S : Nat × (Nat → Int32)} {Q : Option Value → jj_Hp → Prop} {lc' : List Value} {i : Nat} {x : Int} (hd : decode M.1.2 pc = .ok (.istore i, 2)) (hi : (i : Nat) < lc.length) (hl : jj_set lc i (iv x) = lc') (k : jj_Ex d M (pc + 2) lc' st (jj_h Z Y S) Q) : jj_Ex d M pc lc (iv x :: st) (jj_h Z Y S) Q := by
  subst hl
  refine Eq.mpr (jj_xs (P := (pc + 2, jj_set lc i (iv x), st, jj_h Z Y S)) hd rfl rfl rfl ?_) k
  exact if_pos hi
theorem xo_istore_n {d : Nat} {M : jj_M} {pc : Nat} {lc st : List Value} {Z Y : Nat → Nat → Int} {S : Nat × (Nat → Int32)} {Q : Option Value → jj_Hp → Prop} {lc' : List Value} {i : Fin 4} {x : Int} (hd : decode M.1.2 pc = .ok (.istore_n i, 1)) (hi : (i : Nat) < lc.length) (hl : jj_set lc i (iv x) = lc') (k : jj_Ex d M (pc + 1) lc' st (jj_h Z Y S) Q) : jj_Ex d M pc lc (iv x :: st) (jj_h Z Y S) Q := by
  subst hl
  refine Eq.mpr (jj_xs (P := (pc + 1, jj_set lc i (iv x), st, jj_h Z Y S)) hd rfl rfl rfl ?_) k
  exact if_pos hi
theorem xo_lstore {d : Nat} {M : jj_M} {pc : Nat} {lc st : List Value} {Z Y : Nat → Nat → Int} {S : Nat × (Nat → Int32)} {Q : Option Value → jj_Hp → Prop} {lc' : List Value} {i : Nat} {x : Int} (hd : decode M.1.2 pc = .ok (.lstore i, 2)) (hi : (i : Nat) + 1 < lc.length) (hl : jj_set2 lc i (lv x) = lc') (k : jj_Ex d M (pc + 2) lc' st (jj_h Z Y S) Q) : jj_Ex d M pc lc (lv x :: st) (jj_h Z Y S) Q := by
  subst hl
  refine Eq.mpr (jj_xs (P := (pc + 2, jj_set2 lc i (lv x), st, jj_h Z Y S)) hd rfl rfl rfl ?_) k
  exact if_pos hi
theorem xo_lstore_n {d : Nat} {M : jj_M} {pc : Nat} {lc st : List Value} {Z Y : Nat → Nat → Int} {S : Nat × (Nat → Int32)} {Q : Option Value → jj_Hp → Prop} {lc' : List Value} {i : Fin 4} {x : Int} (hd : decode M.1.2 pc = .ok (.lstore_n i, 1)) (hi : (i : Nat) + 1 < lc.length) (hl : jj_set2 lc i (lv x) = lc') (k : jj_Ex d M (pc + 1) lc' st (jj_h Z Y S) Q) : jj_Ex d M pc lc (lv x :: st) (jj_h Z Y S) Q := by
  subst hl
  refine Eq.mpr (jj_xs (P := (pc + 1, jj_set2 lc i (lv x), st, jj_h Z Y S)) hd rfl rfl rfl ?_) k
  exact if_pos hi
theorem xo_astore {d : Nat} {M : jj_M} {pc : Nat} {lc st : List Value} {Z Y : Nat → Nat → Int} {S : Nat × (Nat → Int32)} {Q : Option Value → jj_Hp → Prop} {lc' : List Value} {i : Nat} {x : Nat} (hd : decode M.1.2 pc = .ok (.astore i, 2)) (hi : (i : Nat) < lc.length) (hl : jj_set lc i (.ref x) = lc') (k : jj_Ex d M (pc + 2) lc' st (jj_h Z Y S) Q) : jj_Ex d M pc lc (.ref x :: st) (jj_h Z Y S) Q := by
  subst hl
  refine Eq.mpr (jj_xs (P := (pc + 2, jj_set lc i (.ref x), st, jj_h Z Y S)) hd rfl rfl rfl ?_) k
  exact if_pos hi
theorem xo_astore_n {d : Nat} {M : jj_M} {pc : Nat} {lc st : List Value} {Z Y : Nat → Nat → Int} {S : Nat × (Nat → Int32)} {Q : Option Value → jj_Hp → Prop} {lc' : List Value} {i : Fin 4} {x : Nat} (hd : decode M.1.2 pc = .ok (.astore_n i, 1)) (hi : (i : Nat) < lc.length) (hl : jj_set lc i (.ref x) = lc') (k : jj_Ex d M (pc + 1) lc' st (jj_h Z Y S) Q) : jj_Ex d M pc lc (.ref x :: st) (jj_h Z Y S) Q := by
  subst hl
  refine Eq.mpr (jj_xs (P := (pc + 1, jj_set lc i (.ref x), st, jj_h Z Y S)) hd rfl rfl rfl ?_) k
  exact if_pos hi
theorem xo_iinc {d : Nat} {M : jj_M} {pc : Nat} {lc st : List Value} {Z Y : Nat → Nat → Int} {S : Nat × (Nat → Int32)} {Q : Option Value → jj_Hp → Prop} {lc' : List Value} {i : Nat} {q x : Int} (hd : decode M.1.2 pc = .ok (.iinc i q, 3)) (hg : jj_gi lc i = some (Int32.ofInt x)) (hl : jj_set lc i (iv (x + q)) = lc') (k : jj_Ex d M (pc + 3) lc' st (jj_h Z Y S) Q) : jj_Ex d M pc lc st (jj_h Z Y S) Q := by
  subst hl
  rw [jj_xs (P := (pc + 3, jj_set lc i (iv (x + q)), st, jj_h Z Y S)) hd rfl rfl rfl (by show (jj_gi lc i).map _ = _; rw [hg]; show some (pc + 3, jj_set lc i (.int (Int32.ofInt x + Int32.ofInt q)), st, jj_h Z Y S) = _; rw [o_add]; rfl)]
  exact k
theorem xo_dup_i {d : Nat} {M : jj_M} {pc : Nat} {lc st : List Value} {Z Y : Nat → Nat → Int} {S : Nat × (Nat → Int32)} {Q : Option Value → jj_Hp → Prop} {x : Int} (hd : decode M.1.2 pc = .ok (.dup, 1))  (k : jj_Ex d M (pc + 1) lc (iv x :: iv x :: st) (jj_h Z Y S) Q) : jj_Ex d M pc lc (iv x :: st) (jj_h Z Y S) Q := by
  rw [jj_xs hd rfl rfl rfl rfl]
  exact k
theorem xo_dup_a {d : Nat} {M : jj_M} {pc : Nat} {lc st : List Value} {Z Y : Nat → Nat → Int} {S : Nat × (Nat → Int32)} {Q : Option Value → jj_Hp → Prop} {x : Nat} (hd : decode M.1.2 pc = .ok (.dup, 1))  (k : jj_Ex d M (pc + 1) lc (.ref x :: .ref x :: st) (jj_h Z Y S) Q) : jj_Ex d M pc lc (.ref x :: st) (jj_h Z Y S) Q := by
  rw [jj_xs hd rfl rfl rfl rfl]
  exact k
theorem xo_dup2 {d : Nat} {M : jj_M} {pc : Nat} {lc st : List Value} {Z Y : Nat → Nat → Int} {S : Nat × (Nat → Int32)} {Q : Option Value → jj_Hp → Prop} {i : Int} {a : Nat} (hd : decode M.1.2 pc = .ok (.dup2, 1))  (k : jj_Ex d M (pc + 1) lc (iv i :: .ref a :: iv i :: .ref a :: st) (jj_h Z Y S) Q) : jj_Ex d M pc lc (iv i :: .ref a :: st) (jj_h Z Y S) Q := by
  rw [jj_xs hd rfl rfl rfl rfl]
  exact k
theorem xo_iadd {d : Nat} {M : jj_M} {pc : Nat} {lc st : List Value} {Z Y : Nat → Nat → Int} {S : Nat × (Nat → Int32)} {Q : Option Value → jj_Hp → Prop} {x y : Int} (hd : decode M.1.2 pc = .ok (.iadd, 1))  (k : jj_Ex d M (pc + 1) lc (iv (x + y) :: st) (jj_h Z Y S) Q) : jj_Ex d M pc lc (iv y :: iv x :: st) (jj_h Z Y S) Q := by
  rw [jj_xs hd rfl rfl rfl rfl]
  show jj_Ex d M (pc + 1) lc (.int (Int32.ofInt x + Int32.ofInt y) :: st) (jj_h Z Y S) Q
  rw [o_add]
  exact k
theorem xo_ladd {d : Nat} {M : jj_M} {pc : Nat} {lc st : List Value} {Z Y : Nat → Nat → Int} {S : Nat × (Nat → Int32)} {Q : Option Value → jj_Hp → Prop} {x y : Int} (hd : decode M.1.2 pc = .ok (.ladd, 1))  (k : jj_Ex d M (pc + 1) lc (lv (x + y) :: st) (jj_h Z Y S) Q) : jj_Ex d M pc lc (lv y :: lv x :: st) (jj_h Z Y S) Q := by
  rw [jj_xs hd rfl rfl rfl rfl]
  show jj_Ex d M (pc + 1) lc (.long (Int64.ofInt x + Int64.ofInt y) :: st) (jj_h Z Y S) Q
  rw [q_add]
  exact k
theorem xo_isub {d : Nat} {M : jj_M} {pc : Nat} {lc st : List Value} {Z Y : Nat → Nat → Int} {S : Nat × (Nat → Int32)} {Q : Option Value → jj_Hp → Prop} {x y : Int} (hd : decode M.1.2 pc = .ok (.isub, 1))  (k : jj_Ex d M (pc + 1) lc (iv (x - y) :: st) (jj_h Z Y S) Q) : jj_Ex d M pc lc (iv y :: iv x :: st) (jj_h Z Y S) Q := by
  rw [jj_xs hd rfl rfl rfl rfl]
  show jj_Ex d M (pc + 1) lc (.int (Int32.ofInt x - Int32.ofInt y) :: st) (jj_h Z Y S) Q
  rw [o_sub]
  exact k
theorem xo_lsub {d : Nat} {M : jj_M} {pc : Nat} {lc st : List Value} {Z Y : Nat → Nat → Int} {S : Nat × (Nat → Int32)} {Q : Option Value → jj_Hp → Prop} {x y : Int} (hd : decode M.1.2 pc = .ok (.lsub, 1))  (k : jj_Ex d M (pc + 1) lc (lv (x - y) :: st) (jj_h Z Y S) Q) : jj_Ex d M pc lc (lv y :: lv x :: st) (jj_h Z Y S) Q := by
  rw [jj_xs hd rfl rfl rfl rfl]
  show jj_Ex d M (pc + 1) lc (.long (Int64.ofInt x - Int64.ofInt y) :: st) (jj_h Z Y S) Q
  rw [q_sub]
  exact k
theorem xo_imul {d : Nat} {M : jj_M} {pc : Nat} {lc st : List Value} {Z Y : Nat → Nat → Int} {S : Nat × (Nat → Int32)} {Q : Option Value → jj_Hp → Prop} {x y : Int} (hd : decode M.1.2 pc = .ok (.imul, 1))  (k : jj_Ex d M (pc + 1) lc (iv (x * y) :: st) (jj_h Z Y S) Q) : jj_Ex d M pc lc (iv y :: iv x :: st) (jj_h Z Y S) Q := by
  rw [jj_xs hd rfl rfl rfl rfl]
  show jj_Ex d M (pc + 1) lc (.int (Int32.ofInt x * Int32.ofInt y) :: st) (jj_h Z Y S) Q
  rw [o_mul]
  exact k
theorem xo_lmul {d : Nat} {M : jj_M} {pc : Nat} {lc st : List Value} {Z Y : Nat → Nat → Int} {S : Nat × (Nat → Int32)} {Q : Option Value → jj_Hp → Prop} {x y : Int} (hd : decode M.1.2 pc = .ok (.lmul, 1))  (k : jj_Ex d M (pc + 1) lc (lv (x * y) :: st) (jj_h Z Y S) Q) : jj_Ex d M pc lc (lv y :: lv x :: st) (jj_h Z Y S) Q := by
  rw [jj_xs hd rfl rfl rfl rfl]
  show jj_Ex d M (pc + 1) lc (.long (Int64.ofInt x * Int64.ofInt y) :: st) (jj_h Z Y S) Q
  rw [q_mul]
  exact k
theorem xo_ineg {d : Nat} {M : jj_M} {pc : Nat} {lc st : List Value} {Z Y : Nat → Nat → Int} {S : Nat × (Nat → Int32)} {Q : Option Value → jj_Hp → Prop} {x : Int} (hd : decode M.1.2 pc = .ok (.ineg, 1))  (k : jj_Ex d M (pc + 1) lc (iv (-x) :: st) (jj_h Z Y S) Q) : jj_Ex d M pc lc (iv x :: st) (jj_h Z Y S) Q := by
  rw [jj_xs hd rfl rfl rfl rfl]
  show jj_Ex d M (pc + 1) lc (.int (- Int32.ofInt x) :: st) (jj_h Z Y S) Q
  rw [o_neg]
  exact k
theorem xo_lneg {d : Nat} {M : jj_M} {pc : Nat} {lc st : List Value} {Z Y : Nat → Nat → Int} {S : Nat × (Nat → Int32)} {Q : Option Value → jj_Hp → Prop} {x : Int} (hd : decode M.1.2 pc = .ok (.lneg, 1))  (k : jj_Ex d M (pc + 1) lc (lv (-x) :: st) (jj_h Z Y S) Q) : jj_Ex d M pc lc (lv x :: st) (jj_h Z Y S) Q := by
  rw [jj_xs hd rfl rfl rfl rfl]
  show jj_Ex d M (pc + 1) lc (.long (- Int64.ofInt x) :: st) (jj_h Z Y S) Q
  rw [q_neg]
  exact k
theorem xo_idiv {d : Nat} {M : jj_M} {pc : Nat} {lc st : List Value} {Z Y : Nat → Nat → Int} {S : Nat × (Nat → Int32)} {Q : Option Value → jj_Hp → Prop} {x y : Int} (hd : decode M.1.2 pc = .ok (.idiv, 1)) (hx : -2147483647 ≤ x ∧ x ≤ 2147483647) (hy : -2147483648 ≤ y ∧ y ≤ 2147483647) (h0 : y ≠ 0) (k : jj_Ex d M (pc + 1) lc (iv (x.tdiv y) :: st) (jj_h Z Y S) Q) : jj_Ex d M pc lc (iv y :: iv x :: st) (jj_h Z Y S) Q := by
  have nz : ¬ Int32.ofInt y = 0 := (by intro q; exact h0 ((i_eq (y := 0) hy (by omega)).mp q))
  rw [jj_xs (P := (pc + 1, lc, iv (x.tdiv y) :: st, jj_h Z Y S)) hd rfl rfl rfl (by show (if Int32.ofInt y = 0 then none else some (pc + 1, lc, Value.int (Int32.ofInt x / Int32.ofInt y) :: st, jj_h Z Y S)) = _; rw [if_neg nz, o_div hx hy]; rfl)]
  exact k
theorem xo_irem {d : Nat} {M : jj_M} {pc : Nat} {lc st : List Value} {Z Y : Nat → Nat → Int} {S : Nat × (Nat → Int32)} {Q : Option Value → jj_Hp → Prop} {x y : Int} (hd : decode M.1.2 pc = .ok (.irem, 1)) (hx : -2147483647 ≤ x ∧ x ≤ 2147483647) (hy : -2147483648 ≤ y ∧ y ≤ 2147483647) (h0 : y ≠ 0) (k : jj_Ex d M (pc + 1) lc (iv (x.tmod y) :: st) (jj_h Z Y S) Q) : jj_Ex d M pc lc (iv y :: iv x :: st) (jj_h Z Y S) Q := by
  have nz : ¬ Int32.ofInt y = 0 := (by intro q; exact h0 ((i_eq (y := 0) hy (by omega)).mp q))
  rw [jj_xs (P := (pc + 1, lc, iv (x.tmod y) :: st, jj_h Z Y S)) hd rfl rfl rfl (by show (if Int32.ofInt y = 0 then none else some (pc + 1, lc, Value.int (Int32.ofInt x - Int32.ofInt x / Int32.ofInt y * Int32.ofInt y) :: st, jj_h Z Y S)) = _; rw [if_neg nz, o_div hx hy, o_mul, o_sub, show x - x.tdiv y * y = x.tmod y by rw [Int.tmod_def, Int.mul_comm]]; rfl)]
  exact k
theorem xo_ldiv {d : Nat} {M : jj_M} {pc : Nat} {lc st : List Value} {Z Y : Nat → Nat → Int} {S : Nat × (Nat → Int32)} {Q : Option Value → jj_Hp → Prop} {x y : Int} (hd : decode M.1.2 pc = .ok (.ldiv, 1)) (hx : -9223372036854775807 ≤ x ∧ x ≤ 9223372036854775807) (hy : -9223372036854775808 ≤ y ∧ y ≤ 9223372036854775807) (h0 : y ≠ 0) (k : jj_Ex d M (pc + 1) lc (lv (x.tdiv y) :: st) (jj_h Z Y S) Q) : jj_Ex d M pc lc (lv y :: lv x :: st) (jj_h Z Y S) Q := by
  have nz : ¬ Int64.ofInt y = 0 := (by intro q; exact h0 ((l_eq (y := 0) hy (by omega)).mp q))
  rw [jj_xs (P := (pc + 1, lc, lv (x.tdiv y) :: st, jj_h Z Y S)) hd rfl rfl rfl (by show (if Int64.ofInt y = 0 then none else some (pc + 1, lc, Value.long (Int64.ofInt x / Int64.ofInt y) :: st, jj_h Z Y S)) = _; rw [if_neg nz, q_div hx hy]; rfl)]
  exact k
theorem xo_lrem {d : Nat} {M : jj_M} {pc : Nat} {lc st : List Value} {Z Y : Nat → Nat → Int} {S : Nat × (Nat → Int32)} {Q : Option Value → jj_Hp → Prop} {x y : Int} (hd : decode M.1.2 pc = .ok (.lrem, 1)) (hx : -9223372036854775807 ≤ x ∧ x ≤ 9223372036854775807) (hy : -9223372036854775808 ≤ y ∧ y ≤ 9223372036854775807) (h0 : y ≠ 0) (k : jj_Ex d M (pc + 1) lc (lv (x.tmod y) :: st) (jj_h Z Y S) Q) : jj_Ex d M pc lc (lv y :: lv x :: st) (jj_h Z Y S) Q := by
  have nz : ¬ Int64.ofInt y = 0 := (by intro q; exact h0 ((l_eq (y := 0) hy (by omega)).mp q))
  rw [jj_xs (P := (pc + 1, lc, lv (x.tmod y) :: st, jj_h Z Y S)) hd rfl rfl rfl (by show (if Int64.ofInt y = 0 then none else some (pc + 1, lc, Value.long (Int64.ofInt x - Int64.ofInt x / Int64.ofInt y * Int64.ofInt y) :: st, jj_h Z Y S)) = _; rw [if_neg nz, q_div hx hy, q_mul, q_sub, show x - x.tdiv y * y = x.tmod y by rw [Int.tmod_def, Int.mul_comm]]; rfl)]
  exact k
theorem xo_i2l {d : Nat} {M : jj_M} {pc : Nat} {lc st : List Value} {Z Y : Nat → Nat → Int} {S : Nat × (Nat → Int32)} {Q : Option Value → jj_Hp → Prop} {x : Int} (hd : decode M.1.2 pc = .ok (.i2l, 1)) (hx : -2147483648 ≤ x ∧ x ≤ 2147483647) (k : jj_Ex d M (pc + 1) lc (lv x :: st) (jj_h Z Y S) Q) : jj_Ex d M pc lc (iv x :: st) (jj_h Z Y S) Q := by
  rw [jj_xs hd rfl rfl rfl rfl]
  show jj_Ex d M (pc + 1) lc (.long (Int32.ofInt x).toInt64 :: st) (jj_h Z Y S) Q
  rw [show (Int32.ofInt x).toInt64 = Int64.ofInt x by apply Int64.toInt_inj.mp; rw [Int32.toInt_toInt64, i_toInt hx, l_toInt (by omega)]]
  exact k
theorem xo_l2i {d : Nat} {M : jj_M} {pc : Nat} {lc st : List Value} {Z Y : Nat → Nat → Int} {S : Nat × (Nat → Int32)} {Q : Option Value → jj_Hp → Prop} {x : Int} (hd : decode M.1.2 pc = .ok (.l2i, 1))  (k : jj_Ex d M (pc + 1) lc (iv x :: st) (jj_h Z Y S) Q) : jj_Ex d M pc lc (lv x :: st) (jj_h Z Y S) Q := by
  rw [jj_xs hd rfl rfl rfl rfl]
  show jj_Ex d M (pc + 1) lc (.int (Int64.ofInt x).toInt32 :: st) (jj_h Z Y S) Q
  rw [show (Int64.ofInt x).toInt32 = Int32.ofInt x by simp]
  exact k
theorem xo_goto {d : Nat} {M : jj_M} {pc : Nat} {lc st : List Value} {Z Y : Nat → Nat → Int} {S : Nat × (Nat → Int32)} {Q : Option Value → jj_Hp → Prop} {off : Int} {t : Nat} (hd : decode M.1.2 pc = .ok (.goto off, 3)) (ht : jj_jmp pc off = some t) (k : jj_Ex d M t lc st (jj_h Z Y S) Q) : jj_Ex d M pc lc st (jj_h Z Y S) Q := by
  rw [jj_xs (P := (t, lc, st, jj_h Z Y S)) hd rfl rfl rfl (by show (jj_jmp pc off).map _ = _; rw [ht]; rfl)]
  exact k
theorem xo_icmp_eq {d : Nat} {M : jj_M} {pc : Nat} {lc st : List Value} {Z Y : Nat → Nat → Int} {S : Nat × (Nat → Int32)} {Q : Option Value → jj_Hp → Prop} {off x y : Int} {t : Nat} (hd : decode M.1.2 pc = .ok (.if_icmp .eq off, 3)) (ht : jj_jmp pc off = some t) (hx : -2147483648 ≤ x ∧ x ≤ 2147483647) (hy : -2147483648 ≤ y ∧ y ≤ 2147483647) (kt : x = y → jj_Ex d M t lc st (jj_h Z Y S) Q) (kf : ¬ (x = y) → jj_Ex d M (pc + 3) lc st (jj_h Z Y S) Q) : jj_Ex d M pc lc (iv y :: iv x :: st) (jj_h Z Y S) Q := by
  rw [jj_xs (P := (if jj_c2 .eq (Int32.ofInt x) (Int32.ofInt y) then t else pc + 3, lc, st, jj_h Z Y S)) hd rfl rfl rfl (by show (jj_jmp pc off).map _ = _; rw [ht]; rfl)]
  have e : jj_c2 .eq (Int32.ofInt x) (Int32.ofInt y) = decide (x = y) := by simp only [jj_c2, i_eq hx hy, decide_not]
  by_cases hc : x = y
  · show jj_Ex d M (if jj_c2 .eq (Int32.ofInt x) (Int32.ofInt y) = true then t else pc + 3) lc st (jj_h Z Y S) Q
    rw [if_pos (e.trans (decide_eq_true hc))]
    exact kt hc
  · show jj_Ex d M (if jj_c2 .eq (Int32.ofInt x) (Int32.ofInt y) = true then t else pc + 3) lc st (jj_h Z Y S) Q
    rw [if_neg (fun z => hc (of_decide_eq_true (e.symm.trans z)))]
    exact kf (hc)
theorem xo_if_eq {d : Nat} {M : jj_M} {pc : Nat} {lc st : List Value} {Z Y : Nat → Nat → Int} {S : Nat × (Nat → Int32)} {Q : Option Value → jj_Hp → Prop} {off x : Int} {t : Nat} (hd : decode M.1.2 pc = .ok (.ifCond .eq off, 3)) (ht : jj_jmp pc off = some t) (hx : -2147483648 ≤ x ∧ x ≤ 2147483647) (kt : x = 0 → jj_Ex d M t lc st (jj_h Z Y S) Q) (kf : ¬ (x = 0) → jj_Ex d M (pc + 3) lc st (jj_h Z Y S) Q) : jj_Ex d M pc lc (iv x :: st) (jj_h Z Y S) Q := by
  rw [jj_xs (P := (if jj_c1 .eq (Int32.ofInt x) then t else pc + 3, lc, st, jj_h Z Y S)) hd rfl rfl rfl (by show (jj_jmp pc off).map _ = _; rw [ht]; rfl)]
  have hz : -2147483648 ≤ (0 : Int) ∧ (0 : Int) ≤ 2147483647 := by omega
  have z0 : (0 : Int32) = Int32.ofInt 0 := rfl
  have e : jj_c1 .eq (Int32.ofInt x) = decide (x = 0) := by simp only [jj_c1, z0, i_eq hx hz, decide_not]
  by_cases hc : x = 0
  · show jj_Ex d M (if jj_c1 .eq (Int32.ofInt x) = true then t else pc + 3) lc st (jj_h Z Y S) Q
    rw [if_pos (e.trans (decide_eq_true hc))]
    exact kt hc
  · show jj_Ex d M (if jj_c1 .eq (Int32.ofInt x) = true then t else pc + 3) lc st (jj_h Z Y S) Q
    rw [if_neg (fun z => hc (of_decide_eq_true (e.symm.trans z)))]
    exact kf (hc)
theorem xo_lcmp_eq {d : Nat} {M : jj_M} {pc : Nat} {lc st : List Value} {Z Y : Nat → Nat → Int} {S : Nat × (Nat → Int32)} {Q : Option Value → jj_Hp → Prop} {off x y : Int} {t : Nat} (hd : decode M.1.2 pc = .ok (.lcmp, 1)) (hd2 : decode M.1.2 (pc + 1) = .ok (.ifCond .eq off, 3)) (ht : jj_jmp (pc + 1) off = some t) (hx : -9223372036854775808 ≤ x ∧ x ≤ 9223372036854775807) (hy : -9223372036854775808 ≤ y ∧ y ≤ 9223372036854775807) (kt : x = y → jj_Ex d M t lc st (jj_h Z Y S) Q) (kf : ¬ (x = y) → jj_Ex d M (pc + 4) lc st (jj_h Z Y S) Q) : jj_Ex d M pc lc (lv y :: lv x :: st) (jj_h Z Y S) Q := by
  rw [jj_xs (P := (pc + 1, lc, .int (lg_cmp (Int64.ofInt x) (Int64.ofInt y)) :: st, jj_h Z Y S)) hd rfl rfl rfl rfl]
  have e : lg_cmp (Int64.ofInt x) (Int64.ofInt y) = Int32.ofInt (if y < x then 1 else if x = y then 0 else -1) := by
    unfold lg_cmp
    simp only [gt_iff_lt, l_lt hy hx, l_eq hx hy]
    split
    · rfl
    · split <;> rfl
  simp only [e]
  refine xo_if_eq (x := if y < x then 1 else if x = y then 0 else -1) hd2 ht (by by_cases z1 : y < x <;> by_cases z2 : x = y <;> simp only [z1, z2, if_true, if_false] <;> omega) (fun z => kt ?_) (fun z => kf ?_)
  · by_cases z1 : y < x
    · rw [if_pos z1] at z; omega
    · rw [if_neg z1] at z
      by_cases z2 : x = y
      · rw [if_pos z2] at z; omega
      · rw [if_neg z2] at z; omega
  · by_cases z1 : y < x
    · rw [if_pos z1] at z; omega
    · rw [if_neg z1] at z
      by_cases z2 : x = y
      · rw [if_pos z2] at z; omega
      · rw [if_neg z2] at z; omega
theorem xo_icmp_ne {d : Nat} {M : jj_M} {pc : Nat} {lc st : List Value} {Z Y : Nat → Nat → Int} {S : Nat × (Nat → Int32)} {Q : Option Value → jj_Hp → Prop} {off x y : Int} {t : Nat} (hd : decode M.1.2 pc = .ok (.if_icmp .ne off, 3)) (ht : jj_jmp pc off = some t) (hx : -2147483648 ≤ x ∧ x ≤ 2147483647) (hy : -2147483648 ≤ y ∧ y ≤ 2147483647) (kt : ¬ x = y → jj_Ex d M t lc st (jj_h Z Y S) Q) (kf : x = y → jj_Ex d M (pc + 3) lc st (jj_h Z Y S) Q) : jj_Ex d M pc lc (iv y :: iv x :: st) (jj_h Z Y S) Q := by
  rw [jj_xs (P := (if jj_c2 .ne (Int32.ofInt x) (Int32.ofInt y) then t else pc + 3, lc, st, jj_h Z Y S)) hd rfl rfl rfl (by show (jj_jmp pc off).map _ = _; rw [ht]; rfl)]
  have e : jj_c2 .ne (Int32.ofInt x) (Int32.ofInt y) = decide (¬ x = y) := by simp only [jj_c2, i_eq hx hy, decide_not]
  by_cases hc : ¬ x = y
  · show jj_Ex d M (if jj_c2 .ne (Int32.ofInt x) (Int32.ofInt y) = true then t else pc + 3) lc st (jj_h Z Y S) Q
    rw [if_pos (e.trans (decide_eq_true hc))]
    exact kt hc
  · show jj_Ex d M (if jj_c2 .ne (Int32.ofInt x) (Int32.ofInt y) = true then t else pc + 3) lc st (jj_h Z Y S) Q
    rw [if_neg (fun z => hc (of_decide_eq_true (e.symm.trans z)))]
    exact kf (Decidable.not_not.mp hc)
theorem xo_if_ne {d : Nat} {M : jj_M} {pc : Nat} {lc st : List Value} {Z Y : Nat → Nat → Int} {S : Nat × (Nat → Int32)} {Q : Option Value → jj_Hp → Prop} {off x : Int} {t : Nat} (hd : decode M.1.2 pc = .ok (.ifCond .ne off, 3)) (ht : jj_jmp pc off = some t) (hx : -2147483648 ≤ x ∧ x ≤ 2147483647) (kt : ¬ x = 0 → jj_Ex d M t lc st (jj_h Z Y S) Q) (kf : x = 0 → jj_Ex d M (pc + 3) lc st (jj_h Z Y S) Q) : jj_Ex d M pc lc (iv x :: st) (jj_h Z Y S) Q := by
  rw [jj_xs (P := (if jj_c1 .ne (Int32.ofInt x) then t else pc + 3, lc, st, jj_h Z Y S)) hd rfl rfl rfl (by show (jj_jmp pc off).map _ = _; rw [ht]; rfl)]
  have hz : -2147483648 ≤ (0 : Int) ∧ (0 : Int) ≤ 2147483647 := by omega
  have z0 : (0 : Int32) = Int32.ofInt 0 := rfl
  have e : jj_c1 .ne (Int32.ofInt x) = decide (¬ x = 0) := by simp only [jj_c1, z0, i_eq hx hz, decide_not]
  by_cases hc : ¬ x = 0
  · show jj_Ex d M (if jj_c1 .ne (Int32.ofInt x) = true then t else pc + 3) lc st (jj_h Z Y S) Q
    rw [if_pos (e.trans (decide_eq_true hc))]
    exact kt hc
  · show jj_Ex d M (if jj_c1 .ne (Int32.ofInt x) = true then t else pc + 3) lc st (jj_h Z Y S) Q
    rw [if_neg (fun z => hc (of_decide_eq_true (e.symm.trans z)))]
    exact kf (Decidable.not_not.mp hc)
theorem xo_lcmp_ne {d : Nat} {M : jj_M} {pc : Nat} {lc st : List Value} {Z Y : Nat → Nat → Int} {S : Nat × (Nat → Int32)} {Q : Option Value → jj_Hp → Prop} {off x y : Int} {t : Nat} (hd : decode M.1.2 pc = .ok (.lcmp, 1)) (hd2 : decode M.1.2 (pc + 1) = .ok (.ifCond .ne off, 3)) (ht : jj_jmp (pc + 1) off = some t) (hx : -9223372036854775808 ≤ x ∧ x ≤ 9223372036854775807) (hy : -9223372036854775808 ≤ y ∧ y ≤ 9223372036854775807) (kt : ¬ x = y → jj_Ex d M t lc st (jj_h Z Y S) Q) (kf : x = y → jj_Ex d M (pc + 4) lc st (jj_h Z Y S) Q) : jj_Ex d M pc lc (lv y :: lv x :: st) (jj_h Z Y S) Q := by
  rw [jj_xs (P := (pc + 1, lc, .int (lg_cmp (Int64.ofInt x) (Int64.ofInt y)) :: st, jj_h Z Y S)) hd rfl rfl rfl rfl]
  have e : lg_cmp (Int64.ofInt x) (Int64.ofInt y) = Int32.ofInt (if y < x then 1 else if x = y then 0 else -1) := by
    unfold lg_cmp
    simp only [gt_iff_lt, l_lt hy hx, l_eq hx hy]
    split
    · rfl
    · split <;> rfl
  simp only [e]
  refine xo_if_ne (x := if y < x then 1 else if x = y then 0 else -1) hd2 ht (by by_cases z1 : y < x <;> by_cases z2 : x = y <;> simp only [z1, z2, if_true, if_false] <;> omega) (fun z => kt ?_) (fun z => kf ?_)
  · by_cases z1 : y < x
    · rw [if_pos z1] at z; omega
    · rw [if_neg z1] at z
      by_cases z2 : x = y
      · rw [if_pos z2] at z; omega
      · rw [if_neg z2] at z; omega
  · by_cases z1 : y < x
    · rw [if_pos z1] at z; omega
    · rw [if_neg z1] at z
      by_cases z2 : x = y
      · rw [if_pos z2] at z; omega
      · rw [if_neg z2] at z; omega
theorem xo_icmp_lt {d : Nat} {M : jj_M} {pc : Nat} {lc st : List Value} {Z Y : Nat → Nat → Int} {S : Nat × (Nat → Int32)} {Q : Option Value → jj_Hp → Prop} {off x y : Int} {t : Nat} (hd : decode M.1.2 pc = .ok (.if_icmp .lt off, 3)) (ht : jj_jmp pc off = some t) (hx : -2147483648 ≤ x ∧ x ≤ 2147483647) (hy : -2147483648 ≤ y ∧ y ≤ 2147483647) (kt : x < y → jj_Ex d M t lc st (jj_h Z Y S) Q) (kf : ¬ (x < y) → jj_Ex d M (pc + 3) lc st (jj_h Z Y S) Q) : jj_Ex d M pc lc (iv y :: iv x :: st) (jj_h Z Y S) Q := by
  rw [jj_xs (P := (if jj_c2 .lt (Int32.ofInt x) (Int32.ofInt y) then t else pc + 3, lc, st, jj_h Z Y S)) hd rfl rfl rfl (by show (jj_jmp pc off).map _ = _; rw [ht]; rfl)]
  have e : jj_c2 .lt (Int32.ofInt x) (Int32.ofInt y) = decide (x < y) := by simp only [jj_c2, i_lt hx hy, decide_not]
  by_cases hc : x < y
  · show jj_Ex d M (if jj_c2 .lt (Int32.ofInt x) (Int32.ofInt y) = true then t else pc + 3) lc st (jj_h Z Y S) Q
    rw [if_pos (e.trans (decide_eq_true hc))]
    exact kt hc
  · show jj_Ex d M (if jj_c2 .lt (Int32.ofInt x) (Int32.ofInt y) = true then t else pc + 3) lc st (jj_h Z Y S) Q
    rw [if_neg (fun z => hc (of_decide_eq_true (e.symm.trans z)))]
    exact kf (hc)
theorem xo_if_lt {d : Nat} {M : jj_M} {pc : Nat} {lc st : List Value} {Z Y : Nat → Nat → Int} {S : Nat × (Nat → Int32)} {Q : Option Value → jj_Hp → Prop} {off x : Int} {t : Nat} (hd : decode M.1.2 pc = .ok (.ifCond .lt off, 3)) (ht : jj_jmp pc off = some t) (hx : -2147483648 ≤ x ∧ x ≤ 2147483647) (kt : x < 0 → jj_Ex d M t lc st (jj_h Z Y S) Q) (kf : ¬ (x < 0) → jj_Ex d M (pc + 3) lc st (jj_h Z Y S) Q) : jj_Ex d M pc lc (iv x :: st) (jj_h Z Y S) Q := by
  rw [jj_xs (P := (if jj_c1 .lt (Int32.ofInt x) then t else pc + 3, lc, st, jj_h Z Y S)) hd rfl rfl rfl (by show (jj_jmp pc off).map _ = _; rw [ht]; rfl)]
  have hz : -2147483648 ≤ (0 : Int) ∧ (0 : Int) ≤ 2147483647 := by omega
  have z0 : (0 : Int32) = Int32.ofInt 0 := rfl
  have e : jj_c1 .lt (Int32.ofInt x) = decide (x < 0) := by simp only [jj_c1, z0, i_lt hx hz, decide_not]
  by_cases hc : x < 0
  · show jj_Ex d M (if jj_c1 .lt (Int32.ofInt x) = true then t else pc + 3) lc st (jj_h Z Y S) Q
    rw [if_pos (e.trans (decide_eq_true hc))]
    exact kt hc
  · show jj_Ex d M (if jj_c1 .lt (Int32.ofInt x) = true then t else pc + 3) lc st (jj_h Z Y S) Q
    rw [if_neg (fun z => hc (of_decide_eq_true (e.symm.trans z)))]
    exact kf (hc)
theorem xo_lcmp_lt {d : Nat} {M : jj_M} {pc : Nat} {lc st : List Value} {Z Y : Nat → Nat → Int} {S : Nat × (Nat → Int32)} {Q : Option Value → jj_Hp → Prop} {off x y : Int} {t : Nat} (hd : decode M.1.2 pc = .ok (.lcmp, 1)) (hd2 : decode M.1.2 (pc + 1) = .ok (.ifCond .lt off, 3)) (ht : jj_jmp (pc + 1) off = some t) (hx : -9223372036854775808 ≤ x ∧ x ≤ 9223372036854775807) (hy : -9223372036854775808 ≤ y ∧ y ≤ 9223372036854775807) (kt : x < y → jj_Ex d M t lc st (jj_h Z Y S) Q) (kf : ¬ (x < y) → jj_Ex d M (pc + 4) lc st (jj_h Z Y S) Q) : jj_Ex d M pc lc (lv y :: lv x :: st) (jj_h Z Y S) Q := by
  rw [jj_xs (P := (pc + 1, lc, .int (lg_cmp (Int64.ofInt x) (Int64.ofInt y)) :: st, jj_h Z Y S)) hd rfl rfl rfl rfl]
  have e : lg_cmp (Int64.ofInt x) (Int64.ofInt y) = Int32.ofInt (if y < x then 1 else if x = y then 0 else -1) := by
    unfold lg_cmp
    simp only [gt_iff_lt, l_lt hy hx, l_eq hx hy]
    split
    · rfl
    · split <;> rfl
  simp only [e]
  refine xo_if_lt (x := if y < x then 1 else if x = y then 0 else -1) hd2 ht (by by_cases z1 : y < x <;> by_cases z2 : x = y <;> simp only [z1, z2, if_true, if_false] <;> omega) (fun z => kt ?_) (fun z => kf ?_)
  · by_cases z1 : y < x
    · rw [if_pos z1] at z; omega
    · rw [if_neg z1] at z
      by_cases z2 : x = y
      · rw [if_pos z2] at z; omega
      · rw [if_neg z2] at z; omega
  · by_cases z1 : y < x
    · rw [if_pos z1] at z; omega
    · rw [if_neg z1] at z
      by_cases z2 : x = y
      · rw [if_pos z2] at z; omega
      · rw [if_neg z2] at z; omega
theorem xo_icmp_ge {d : Nat} {M : jj_M} {pc : Nat} {lc st : List Value} {Z Y : Nat → Nat → Int} {S : Nat × (Nat → Int32)} {Q : Option Value → jj_Hp → Prop} {off x y : Int} {t : Nat} (hd : decode M.1.2 pc = .ok (.if_icmp .ge off, 3)) (ht : jj_jmp pc off = some t) (hx : -2147483648 ≤ x ∧ x ≤ 2147483647) (hy : -2147483648 ≤ y ∧ y ≤ 2147483647) (kt : y ≤ x → jj_Ex d M t lc st (jj_h Z Y S) Q) (kf : ¬ (y ≤ x) → jj_Ex d M (pc + 3) lc st (jj_h Z Y S) Q) : jj_Ex d M pc lc (iv y :: iv x :: st) (jj_h Z Y S) Q := by
  rw [jj_xs (P := (if jj_c2 .ge (Int32.ofInt x) (Int32.ofInt y) then t else pc + 3, lc, st, jj_h Z Y S)) hd rfl rfl rfl (by show (jj_jmp pc off).map _ = _; rw [ht]; rfl)]
  have e : jj_c2 .ge (Int32.ofInt x) (Int32.ofInt y) = decide (y ≤ x) := by simp only [jj_c2, i_le hy hx, decide_not]
  by_cases hc : y ≤ x
  · show jj_Ex d M (if jj_c2 .ge (Int32.ofInt x) (Int32.ofInt y) = true then t else pc + 3) lc st (jj_h Z Y S) Q
    rw [if_pos (e.trans (decide_eq_true hc))]
    exact kt hc
  · show jj_Ex d M (if jj_c2 .ge (Int32.ofInt x) (Int32.ofInt y) = true then t else pc + 3) lc st (jj_h Z Y S) Q
    rw [if_neg (fun z => hc (of_decide_eq_true (e.symm.trans z)))]
    exact kf (hc)
theorem xo_if_ge {d : Nat} {M : jj_M} {pc : Nat} {lc st : List Value} {Z Y : Nat → Nat → Int} {S : Nat × (Nat → Int32)} {Q : Option Value → jj_Hp → Prop} {off x : Int} {t : Nat} (hd : decode M.1.2 pc = .ok (.ifCond .ge off, 3)) (ht : jj_jmp pc off = some t) (hx : -2147483648 ≤ x ∧ x ≤ 2147483647) (kt : 0 ≤ x → jj_Ex d M t lc st (jj_h Z Y S) Q) (kf : ¬ (0 ≤ x) → jj_Ex d M (pc + 3) lc st (jj_h Z Y S) Q) : jj_Ex d M pc lc (iv x :: st) (jj_h Z Y S) Q := by
  rw [jj_xs (P := (if jj_c1 .ge (Int32.ofInt x) then t else pc + 3, lc, st, jj_h Z Y S)) hd rfl rfl rfl (by show (jj_jmp pc off).map _ = _; rw [ht]; rfl)]
  have hz : -2147483648 ≤ (0 : Int) ∧ (0 : Int) ≤ 2147483647 := by omega
  have z0 : (0 : Int32) = Int32.ofInt 0 := rfl
  have e : jj_c1 .ge (Int32.ofInt x) = decide (0 ≤ x) := by simp only [jj_c1, z0, i_le hz hx, decide_not]
  by_cases hc : 0 ≤ x
  · show jj_Ex d M (if jj_c1 .ge (Int32.ofInt x) = true then t else pc + 3) lc st (jj_h Z Y S) Q
    rw [if_pos (e.trans (decide_eq_true hc))]
    exact kt hc
  · show jj_Ex d M (if jj_c1 .ge (Int32.ofInt x) = true then t else pc + 3) lc st (jj_h Z Y S) Q
    rw [if_neg (fun z => hc (of_decide_eq_true (e.symm.trans z)))]
    exact kf (hc)
theorem xo_lcmp_ge {d : Nat} {M : jj_M} {pc : Nat} {lc st : List Value} {Z Y : Nat → Nat → Int} {S : Nat × (Nat → Int32)} {Q : Option Value → jj_Hp → Prop} {off x y : Int} {t : Nat} (hd : decode M.1.2 pc = .ok (.lcmp, 1)) (hd2 : decode M.1.2 (pc + 1) = .ok (.ifCond .ge off, 3)) (ht : jj_jmp (pc + 1) off = some t) (hx : -9223372036854775808 ≤ x ∧ x ≤ 9223372036854775807) (hy : -9223372036854775808 ≤ y ∧ y ≤ 9223372036854775807) (kt : y ≤ x → jj_Ex d M t lc st (jj_h Z Y S) Q) (kf : ¬ (y ≤ x) → jj_Ex d M (pc + 4) lc st (jj_h Z Y S) Q) : jj_Ex d M pc lc (lv y :: lv x :: st) (jj_h Z Y S) Q := by
  rw [jj_xs (P := (pc + 1, lc, .int (lg_cmp (Int64.ofInt x) (Int64.ofInt y)) :: st, jj_h Z Y S)) hd rfl rfl rfl rfl]
  have e : lg_cmp (Int64.ofInt x) (Int64.ofInt y) = Int32.ofInt (if y < x then 1 else if x = y then 0 else -1) := by
    unfold lg_cmp
    simp only [gt_iff_lt, l_lt hy hx, l_eq hx hy]
    split
    · rfl
    · split <;> rfl
  simp only [e]
  refine xo_if_ge (x := if y < x then 1 else if x = y then 0 else -1) hd2 ht (by by_cases z1 : y < x <;> by_cases z2 : x = y <;> simp only [z1, z2, if_true, if_false] <;> omega) (fun z => kt ?_) (fun z => kf ?_)
  · by_cases z1 : y < x
    · rw [if_pos z1] at z; omega
    · rw [if_neg z1] at z
      by_cases z2 : x = y
      · rw [if_pos z2] at z; omega
      · rw [if_neg z2] at z; omega
  · by_cases z1 : y < x
    · rw [if_pos z1] at z; omega
    · rw [if_neg z1] at z
      by_cases z2 : x = y
      · rw [if_pos z2] at z; omega
      · rw [if_neg z2] at z; omega
theorem xo_icmp_gt {d : Nat} {M : jj_M} {pc : Nat} {lc st : List Value} {Z Y : Nat → Nat → Int} {S : Nat × (Nat → Int32)} {Q : Option Value → jj_Hp → Prop} {off x y : Int} {t : Nat} (hd : decode M.1.2 pc = .ok (.if_icmp .gt off, 3)) (ht : jj_jmp pc off = some t) (hx : -2147483648 ≤ x ∧ x ≤ 2147483647) (hy : -2147483648 ≤ y ∧ y ≤ 2147483647) (kt : y < x → jj_Ex d M t lc st (jj_h Z Y S) Q) (kf : ¬ (y < x) → jj_Ex d M (pc + 3) lc st (jj_h Z Y S) Q) : jj_Ex d M pc lc (iv y :: iv x :: st) (jj_h Z Y S) Q := by
  rw [jj_xs (P := (if jj_c2 .gt (Int32.ofInt x) (Int32.ofInt y) then t else pc + 3, lc, st, jj_h Z Y S)) hd rfl rfl rfl (by show (jj_jmp pc off).map _ = _; rw [ht]; rfl)]
  have e : jj_c2 .gt (Int32.ofInt x) (Int32.ofInt y) = decide (y < x) := by simp only [jj_c2, i_lt hy hx, decide_not]
  by_cases hc : y < x
  · show jj_Ex d M (if jj_c2 .gt (Int32.ofInt x) (Int32.ofInt y) = true then t else pc + 3) lc st (jj_h Z Y S) Q
    rw [if_pos (e.trans (decide_eq_true hc))]
    exact kt hc
  · show jj_Ex d M (if jj_c2 .gt (Int32.ofInt x) (Int32.ofInt y) = true then t else pc + 3) lc st (jj_h Z Y S) Q
    rw [if_neg (fun z => hc (of_decide_eq_true (e.symm.trans z)))]
    exact kf (hc)
theorem xo_if_gt {d : Nat} {M : jj_M} {pc : Nat} {lc st : List Value} {Z Y : Nat → Nat → Int} {S : Nat × (Nat → Int32)} {Q : Option Value → jj_Hp → Prop} {off x : Int} {t : Nat} (hd : decode M.1.2 pc = .ok (.ifCond .gt off, 3)) (ht : jj_jmp pc off = some t) (hx : -2147483648 ≤ x ∧ x ≤ 2147483647) (kt : 0 < x → jj_Ex d M t lc st (jj_h Z Y S) Q) (kf : ¬ (0 < x) → jj_Ex d M (pc + 3) lc st (jj_h Z Y S) Q) : jj_Ex d M pc lc (iv x :: st) (jj_h Z Y S) Q := by
  rw [jj_xs (P := (if jj_c1 .gt (Int32.ofInt x) then t else pc + 3, lc, st, jj_h Z Y S)) hd rfl rfl rfl (by show (jj_jmp pc off).map _ = _; rw [ht]; rfl)]
  have hz : -2147483648 ≤ (0 : Int) ∧ (0 : Int) ≤ 2147483647 := by omega
  have z0 : (0 : Int32) = Int32.ofInt 0 := rfl
  have e : jj_c1 .gt (Int32.ofInt x) = decide (0 < x) := by simp only [jj_c1, z0, i_lt hz hx, decide_not]
  by_cases hc : 0 < x
  · show jj_Ex d M (if jj_c1 .gt (Int32.ofInt x) = true then t else pc + 3) lc st (jj_h Z Y S) Q
    rw [if_pos (e.trans (decide_eq_true hc))]
    exact kt hc
  · show jj_Ex d M (if jj_c1 .gt (Int32.ofInt x) = true then t else pc + 3) lc st (jj_h Z Y S) Q
    rw [if_neg (fun z => hc (of_decide_eq_true (e.symm.trans z)))]
    exact kf (hc)
theorem xo_lcmp_gt {d : Nat} {M : jj_M} {pc : Nat} {lc st : List Value} {Z Y : Nat → Nat → Int} {S : Nat × (Nat → Int32)} {Q : Option Value → jj_Hp → Prop} {off x y : Int} {t : Nat} (hd : decode M.1.2 pc = .ok (.lcmp, 1)) (hd2 : decode M.1.2 (pc + 1) = .ok (.ifCond .gt off, 3)) (ht : jj_jmp (pc + 1) off = some t) (hx : -9223372036854775808 ≤ x ∧ x ≤ 9223372036854775807) (hy : -9223372036854775808 ≤ y ∧ y ≤ 9223372036854775807) (kt : y < x → jj_Ex d M t lc st (jj_h Z Y S) Q) (kf : ¬ (y < x) → jj_Ex d M (pc + 4) lc st (jj_h Z Y S) Q) : jj_Ex d M pc lc (lv y :: lv x :: st) (jj_h Z Y S) Q := by
  rw [jj_xs (P := (pc + 1, lc, .int (lg_cmp (Int64.ofInt x) (Int64.ofInt y)) :: st, jj_h Z Y S)) hd rfl rfl rfl rfl]
  have e : lg_cmp (Int64.ofInt x) (Int64.ofInt y) = Int32.ofInt (if y < x then 1 else if x = y then 0 else -1) := by
    unfold lg_cmp
    simp only [gt_iff_lt, l_lt hy hx, l_eq hx hy]
    split
    · rfl
    · split <;> rfl
  simp only [e]
  refine xo_if_gt (x := if y < x then 1 else if x = y then 0 else -1) hd2 ht (by by_cases z1 : y < x <;> by_cases z2 : x = y <;> simp only [z1, z2, if_true, if_false] <;> omega) (fun z => kt ?_) (fun z => kf ?_)
  · by_cases z1 : y < x
    · rw [if_pos z1] at z; omega
    · rw [if_neg z1] at z
      by_cases z2 : x = y
      · rw [if_pos z2] at z; omega
      · rw [if_neg z2] at z; omega
  · by_cases z1 : y < x
    · rw [if_pos z1] at z; omega
    · rw [if_neg z1] at z
      by_cases z2 : x = y
      · rw [if_pos z2] at z; omega
      · rw [if_neg z2] at z; omega
theorem xo_icmp_le {d : Nat} {M : jj_M} {pc : Nat} {lc st : List Value} {Z Y : Nat → Nat → Int} {S : Nat × (Nat → Int32)} {Q : Option Value → jj_Hp → Prop} {off x y : Int} {t : Nat} (hd : decode M.1.2 pc = .ok (.if_icmp .le off, 3)) (ht : jj_jmp pc off = some t) (hx : -2147483648 ≤ x ∧ x ≤ 2147483647) (hy : -2147483648 ≤ y ∧ y ≤ 2147483647) (kt : x ≤ y → jj_Ex d M t lc st (jj_h Z Y S) Q) (kf : ¬ (x ≤ y) → jj_Ex d M (pc + 3) lc st (jj_h Z Y S) Q) : jj_Ex d M pc lc (iv y :: iv x :: st) (jj_h Z Y S) Q := by
  rw [jj_xs (P := (if jj_c2 .le (Int32.ofInt x) (Int32.ofInt y) then t else pc + 3, lc, st, jj_h Z Y S)) hd rfl rfl rfl (by show (jj_jmp pc off).map _ = _; rw [ht]; rfl)]
  have e : jj_c2 .le (Int32.ofInt x) (Int32.ofInt y) = decide (x ≤ y) := by simp only [jj_c2, i_le hx hy, decide_not]
  by_cases hc : x ≤ y
  · show jj_Ex d M (if jj_c2 .le (Int32.ofInt x) (Int32.ofInt y) = true then t else pc + 3) lc st (jj_h Z Y S) Q
    rw [if_pos (e.trans (decide_eq_true hc))]
    exact kt hc
  · show jj_Ex d M (if jj_c2 .le (Int32.ofInt x) (Int32.ofInt y) = true then t else pc + 3) lc st (jj_h Z Y S) Q
    rw [if_neg (fun z => hc (of_decide_eq_true (e.symm.trans z)))]
    exact kf (hc)
theorem xo_if_le {d : Nat} {M : jj_M} {pc : Nat} {lc st : List Value} {Z Y : Nat → Nat → Int} {S : Nat × (Nat → Int32)} {Q : Option Value → jj_Hp → Prop} {off x : Int} {t : Nat} (hd : decode M.1.2 pc = .ok (.ifCond .le off, 3)) (ht : jj_jmp pc off = some t) (hx : -2147483648 ≤ x ∧ x ≤ 2147483647) (kt : x ≤ 0 → jj_Ex d M t lc st (jj_h Z Y S) Q) (kf : ¬ (x ≤ 0) → jj_Ex d M (pc + 3) lc st (jj_h Z Y S) Q) : jj_Ex d M pc lc (iv x :: st) (jj_h Z Y S) Q := by
  rw [jj_xs (P := (if jj_c1 .le (Int32.ofInt x) then t else pc + 3, lc, st, jj_h Z Y S)) hd rfl rfl rfl (by show (jj_jmp pc off).map _ = _; rw [ht]; rfl)]
  have hz : -2147483648 ≤ (0 : Int) ∧ (0 : Int) ≤ 2147483647 := by omega
  have z0 : (0 : Int32) = Int32.ofInt 0 := rfl
  have e : jj_c1 .le (Int32.ofInt x) = decide (x ≤ 0) := by simp only [jj_c1, z0, i_le hx hz, decide_not]
  by_cases hc : x ≤ 0
  · show jj_Ex d M (if jj_c1 .le (Int32.ofInt x) = true then t else pc + 3) lc st (jj_h Z Y S) Q
    rw [if_pos (e.trans (decide_eq_true hc))]
    exact kt hc
  · show jj_Ex d M (if jj_c1 .le (Int32.ofInt x) = true then t else pc + 3) lc st (jj_h Z Y S) Q
    rw [if_neg (fun z => hc (of_decide_eq_true (e.symm.trans z)))]
    exact kf (hc)
theorem xo_lcmp_le {d : Nat} {M : jj_M} {pc : Nat} {lc st : List Value} {Z Y : Nat → Nat → Int} {S : Nat × (Nat → Int32)} {Q : Option Value → jj_Hp → Prop} {off x y : Int} {t : Nat} (hd : decode M.1.2 pc = .ok (.lcmp, 1)) (hd2 : decode M.1.2 (pc + 1) = .ok (.ifCond .le off, 3)) (ht : jj_jmp (pc + 1) off = some t) (hx : -9223372036854775808 ≤ x ∧ x ≤ 9223372036854775807) (hy : -9223372036854775808 ≤ y ∧ y ≤ 9223372036854775807) (kt : x ≤ y → jj_Ex d M t lc st (jj_h Z Y S) Q) (kf : ¬ (x ≤ y) → jj_Ex d M (pc + 4) lc st (jj_h Z Y S) Q) : jj_Ex d M pc lc (lv y :: lv x :: st) (jj_h Z Y S) Q := by
  rw [jj_xs (P := (pc + 1, lc, .int (lg_cmp (Int64.ofInt x) (Int64.ofInt y)) :: st, jj_h Z Y S)) hd rfl rfl rfl rfl]
  have e : lg_cmp (Int64.ofInt x) (Int64.ofInt y) = Int32.ofInt (if y < x then 1 else if x = y then 0 else -1) := by
    unfold lg_cmp
    simp only [gt_iff_lt, l_lt hy hx, l_eq hx hy]
    split
    · rfl
    · split <;> rfl
  simp only [e]
  refine xo_if_le (x := if y < x then 1 else if x = y then 0 else -1) hd2 ht (by by_cases z1 : y < x <;> by_cases z2 : x = y <;> simp only [z1, z2, if_true, if_false] <;> omega) (fun z => kt ?_) (fun z => kf ?_)
  · by_cases z1 : y < x
    · rw [if_pos z1] at z; omega
    · rw [if_neg z1] at z
      by_cases z2 : x = y
      · rw [if_pos z2] at z; omega
      · rw [if_neg z2] at z; omega
  · by_cases z1 : y < x
    · rw [if_pos z1] at z; omega
    · rw [if_neg z1] at z
      by_cases z2 : x = y
      · rw [if_pos z2] at z; omega
      · rw [if_neg z2] at z; omega
theorem xo_gf {d : Nat} {M : jj_M} {pc : Nat} {lc st : List Value} {Z Y : Nat → Nat → Int} {S : Nat × (Nat → Int32)} {Q : Option Value → jj_Hp → Prop} {v : Value} {i a ci kf : Nat} (hd : decode M.1.2 pc = .ok (.getfield i, 3)) (hf : jj_fld M.2.2.2.1 i = some (ci, kf)) (hs : jj_sh[a]? = some (.inl ci)) (hk : kf < jj_nf ci) (hv : jj_gf (jj_h Z Y S) a ci kf = v) (k : jj_Ex d M (pc + 3) lc (v :: st) (jj_h Z Y S) Q) : jj_Ex d M pc lc (.ref a :: st) (jj_h Z Y S) Q := by
  subst hv
  rw [jj_xs (P := (pc + 3, lc, jj_gf (jj_h Z Y S) a ci kf :: st, jj_h Z Y S)) hd rfl rfl rfl (by show (jj_fld M.2.2.2.1 i).bind _ = _; rw [hf]; exact if_pos ⟨hs, hk⟩)]
  exact k
theorem xo_pfi {d : Nat} {M : jj_M} {pc : Nat} {lc st : List Value} {Z Y : Nat → Nat → Int} {S : Nat × (Nat → Int32)} {Q : Option Value → jj_Hp → Prop} {v : Int} {i a ci kf : Nat} (hd : decode M.1.2 pc = .ok (.putfield i, 3)) (hf : jj_fld M.2.2.2.1 i = some (ci, kf)) (hs : jj_sh[a]? = some (.inl ci)) (hk : kf < jj_nf ci) (ht : jj_fty ci kf = .int) (k : jj_Ex d M (pc + 3) lc st (jj_h (zu Z a kf v) Y S) Q) : jj_Ex d M pc lc (iv v :: .ref a :: st) (jj_h Z Y S) Q := by
  rw [jj_xs (P := (pc + 3, lc, st, jj_h (zu Z a kf v) Y S)) hd rfl rfl rfl (by show (jj_fld M.2.2.2.1 i).bind _ = _; rw [hf, ← iu_h]; dsimp only [Option.bind]; rw [ht]; exact if_pos ⟨hs, hk⟩)]
  exact k
theorem xo_pfz {d : Nat} {M : jj_M} {pc : Nat} {lc st : List Value} {Z Y : Nat → Nat → Int} {S : Nat × (Nat → Int32)} {Q : Option Value → jj_Hp → Prop} {v : Int} {i a ci kf : Nat} (hd : decode M.1.2 pc = .ok (.putfield i, 3)) (hf : jj_fld M.2.2.2.1 i = some (ci, kf)) (hs : jj_sh[a]? = some (.inl ci)) (hk : kf < jj_nf ci) (ht : jj_fty ci kf = .boolean) (h01 : v = 0 ∨ v = 1) (k : jj_Ex d M (pc + 3) lc st (jj_h (zu Z a kf v) Y S) Q) : jj_Ex d M pc lc (iv v :: .ref a :: st) (jj_h Z Y S) Q := by
  rw [jj_xs (P := (pc + 3, lc, st, jj_h (zu Z a kf v) Y S)) hd rfl rfl rfl (by show (jj_fld M.2.2.2.1 i).bind _ = _; rw [hf, ← iu_h]; dsimp only [Option.bind]; rw [ht]; exact if_pos ⟨hs, hk, by rcases h01 with rfl | rfl <;> rfl⟩)]
  exact k
theorem xo_pfl {d : Nat} {M : jj_M} {pc : Nat} {lc st : List Value} {Z Y : Nat → Nat → Int} {S : Nat × (Nat → Int32)} {Q : Option Value → jj_Hp → Prop} {v : Int} {i a ci kf : Nat} (hd : decode M.1.2 pc = .ok (.putfield i, 3)) (hf : jj_fld M.2.2.2.1 i = some (ci, kf)) (hs : jj_sh[a]? = some (.inl ci)) (hk : kf < jj_nf ci) (ht : jj_fty ci kf = .long) (k : jj_Ex d M (pc + 3) lc st (jj_h Z (zu Y a kf v) S) Q) : jj_Ex d M pc lc (lv v :: .ref a :: st) (jj_h Z Y S) Q := by
  rw [jj_xs (P := (pc + 3, lc, st, jj_h Z (zu Y a kf v) S)) hd rfl rfl rfl (by show (jj_fld M.2.2.2.1 i).bind _ = _; rw [hf, ← lu_h]; dsimp only [Option.bind]; rw [ht]; exact if_pos ⟨hs, hk⟩)]
  exact k
def jj_il (a : Nat) : Nat := match jj_sh[a]? with
  | some (.inr (.int, n)) => n
  | _ => 0
theorem jj_il_sh {a : Nat} (h : 0 < jj_il a) : jj_sh[a]? = some (.inr (.int, jj_il a)) ∧ a ≠ jj_sc ∧ jj_il a ≤ 2000 := by
  have h1 : jj_sh[a]? = some (.inr (.int, jj_il a)) := by
    unfold jj_il at h ⊢
    split at h
    · next n hn => rw [hn]
    · omega
  have ha : a < 46 := jj_sh_lt h1
  refine ⟨h1, by show a ≠ 1000; omega, ?_⟩
  revert h1 h
  have : ∀ a, a < 46 → jj_il a ≤ 2000 := by decide
  intro _ _
  exact this a ha
theorem xo_iald {d : Nat} {M : jj_M} {pc : Nat} {lc st : List Value} {Z Y : Nat → Nat → Int} {S : Nat × (Nat → Int32)} {Q : Option Value → jj_Hp → Prop} {i : Int} {a : Nat} (hd : decode M.1.2 pc = .ok (.iaload, 1)) (h0 : 0 ≤ i) (h1 : i < (jj_il a : Nat)) (k : jj_Ex d M (pc + 1) lc (iv (Z a i.toNat) :: st) (jj_h Z Y S) Q) : jj_Ex d M pc lc (iv i :: .ref a :: st) (jj_h Z Y S) Q := by
  obtain ⟨hs, hn, hb⟩ := jj_il_sh (a := a) (by omega)
  rw [jj_xs (P := (pc + 1, lc, iv (Z a i.toNat) :: st, jj_h Z Y S)) hd rfl rfl rfl (by
    show (if a = jj_sc then _ else (match jj_sh[a]? with
      | some (.inr (.int, n)) => if jj_inb (Int32.ofInt i) n then some (pc + 1, lc, Value.int ((jj_h Z Y S).1 a (Int32.ofInt i).toNatClampNeg) :: st, jj_h Z Y S) else none
      | _ => none)) = _
    rw [if_neg hn, hs, i_clamp (by omega)]
    exact if_pos (i_inb h0 h1 (by omega)))]
  exact k
theorem xo_iast {d : Nat} {M : jj_M} {pc : Nat} {lc st : List Value} {Z Y : Nat → Nat → Int} {S : Nat × (Nat → Int32)} {Q : Option Value → jj_Hp → Prop} {i v : Int} {a : Nat} (hd : decode M.1.2 pc = .ok (.iastore, 1)) (h0 : 0 ≤ i) (h1 : i < (jj_il a : Nat)) (k : jj_Ex d M (pc + 1) lc st (jj_h (zu Z a i.toNat v) Y S) Q) : jj_Ex d M pc lc (iv v :: iv i :: .ref a :: st) (jj_h Z Y S) Q := by
  obtain ⟨hs, hn, hb⟩ := jj_il_sh (a := a) (by omega)
  rw [jj_xs (P := (pc + 1, lc, st, jj_h (zu Z a i.toNat v) Y S)) hd rfl rfl rfl (by
    show (match jj_sh[a]? with
      | some (.inr (.int, n)) => if jj_inb (Int32.ofInt i) n then some (pc + 1, lc, st, jj_iu (jj_h Z Y S) a (Int32.ofInt i).toNatClampNeg (Int32.ofInt v)) else none
      | _ => none) = _
    rw [hs, i_clamp (by omega), iu_h]
    exact if_pos (i_inb h0 h1 (by omega)))]
  exact k
theorem xo_zald {d : Nat} {M : jj_M} {pc : Nat} {lc st : List Value} {Z Y : Nat → Nat → Int} {S : Nat × (Nat → Int32)} {Q : Option Value → jj_Hp → Prop} {i v : Int} {a n : Nat} (hd : decode M.1.2 pc = .ok (.baload, 1)) (hs : jj_sh[a]? = some (.inr (.boolean, n))) (hn : n ≤ 2000) (h0 : 0 ≤ i) (h1 : i < n) (k : jj_Ex d M (pc + 1) lc (iv (Z a i.toNat) :: st) (jj_h Z Y S) Q) : jj_Ex d M pc lc (iv i :: .ref a :: st) (jj_h Z Y S) Q := by
  rw [jj_xs (P := (pc + 1, lc, iv (Z a i.toNat) :: st, jj_h Z Y S)) hd rfl rfl rfl (by
    show (match jj_sh[a]? with
      | some (.inr (.boolean, n)) => if jj_inb (Int32.ofInt i) n then some (pc + 1, lc, Value.int ((jj_h Z Y S).1 a (Int32.ofInt i).toNatClampNeg) :: st, jj_h Z Y S) else none
      | _ => none) = _
    rw [hs, i_clamp (by omega)]
    exact if_pos (i_inb h0 h1 (by omega)))]
  exact k
theorem xo_lald {d : Nat} {M : jj_M} {pc : Nat} {lc st : List Value} {Z Y : Nat → Nat → Int} {S : Nat × (Nat → Int32)} {Q : Option Value → jj_Hp → Prop} {i v : Int} {a n : Nat} (hd : decode M.1.2 pc = .ok (.laload, 1)) (hs : jj_sh[a]? = some (.inr (.long, n))) (hn : n ≤ 2000) (h0 : 0 ≤ i) (h1 : i < n) (k : jj_Ex d M (pc + 1) lc (lv (Y a i.toNat) :: st) (jj_h Z Y S) Q) : jj_Ex d M pc lc (iv i :: .ref a :: st) (jj_h Z Y S) Q := by
  rw [jj_xs (P := (pc + 1, lc, lv (Y a i.toNat) :: st, jj_h Z Y S)) hd rfl rfl rfl (by
    show (match jj_sh[a]? with
      | some (.inr (.long, n)) => if jj_inb (Int32.ofInt i) n then some (pc + 1, lc, Value.long ((jj_h Z Y S).2.1 a (Int32.ofInt i).toNatClampNeg) :: st, jj_h Z Y S) else none
      | _ => none) = _
    rw [hs, i_clamp (by omega)]
    exact if_pos (i_inb h0 h1 (by omega)))]
  exact k
theorem xo_zast {d : Nat} {M : jj_M} {pc : Nat} {lc st : List Value} {Z Y : Nat → Nat → Int} {S : Nat × (Nat → Int32)} {Q : Option Value → jj_Hp → Prop} {i v : Int} {a n : Nat} (hd : decode M.1.2 pc = .ok (.bastore, 1)) (hs : jj_sh[a]? = some (.inr (.boolean, n))) (hn : n ≤ 2000) (h0 : 0 ≤ i) (h1 : i < n) (h01 : v = 0 ∨ v = 1) (k : jj_Ex d M (pc + 1) lc (st) (jj_h (zu Z a i.toNat v) Y S) Q) : jj_Ex d M pc lc (iv v :: iv i :: .ref a :: st) (jj_h Z Y S) Q := by
  rw [jj_xs (P := (pc + 1, lc, st, jj_h (zu Z a i.toNat v) Y S)) hd rfl rfl rfl (by
    show (match jj_sh[a]? with
      | some (.inr (.boolean, n)) => if jj_inb (Int32.ofInt i) n ∧ jj_b01 (Int32.ofInt v) = true then some (pc + 1, lc, st, jj_iu (jj_h Z Y S) a (Int32.ofInt i).toNatClampNeg (Int32.ofInt v)) else none
      | _ => none) = _
    rw [hs, i_clamp (by omega), iu_h]
    exact if_pos ⟨i_inb h0 h1 (by omega), by rcases h01 with rfl | rfl <;> rfl⟩)]
  exact k
theorem xo_last {d : Nat} {M : jj_M} {pc : Nat} {lc st : List Value} {Z Y : Nat → Nat → Int} {S : Nat × (Nat → Int32)} {Q : Option Value → jj_Hp → Prop} {i v : Int} {a n : Nat} (hd : decode M.1.2 pc = .ok (.lastore, 1)) (hs : jj_sh[a]? = some (.inr (.long, n))) (hn : n ≤ 2000) (h0 : 0 ≤ i) (h1 : i < n) (k : jj_Ex d M (pc + 1) lc (st) (jj_h Z (zu Y a i.toNat v) S) Q) : jj_Ex d M pc lc (lv v :: iv i :: .ref a :: st) (jj_h Z Y S) Q := by
  rw [jj_xs (P := (pc + 1, lc, st, jj_h Z (zu Y a i.toNat v) S)) hd rfl rfl rfl (by
    show (match jj_sh[a]? with
      | some (.inr (.long, n)) => if jj_inb (Int32.ofInt i) n then some (pc + 1, lc, st, jj_lu (jj_h Z Y S) a (Int32.ofInt i).toNatClampNeg (Int64.ofInt v)) else none
      | _ => none) = _
    rw [hs, i_clamp (by omega), lu_h]
    exact if_pos (i_inb h0 h1 (by omega)))]
  exact k
theorem xo_sald {d : Nat} {M : jj_M} {pc : Nat} {lc st : List Value} {Z Y : Nat → Nat → Int} {S : Nat × (Nat → Int32)} {Q : Option Value → jj_Hp → Prop} {i : Int} {xs : Nat → Int32} {L : Nat} (hd : decode M.1.2 pc = .ok (.iaload, 1)) (h0 : 0 ≤ i) (h1 : i < L) (hL : L ≤ 2147483647) (k : jj_Ex d M (pc + 1) lc (iv (xs i.toNat).toInt :: st) (jj_h Z Y (L, xs)) Q) : jj_Ex d M pc lc (iv i :: .ref jj_sc :: st) (jj_h Z Y (L, xs)) Q := by
  refine Eq.mpr (jj_xs (P := (pc + 1, lc, iv (xs i.toNat).toInt :: st, jj_h Z Y (L, xs))) hd rfl rfl rfl ?_) k
  have e0 : jj_st M.2.2.2.1 .iaload pc lc (iv i :: .ref jj_sc :: st) (jj_h Z Y (L, xs)) = (if jj_inb (Int32.ofInt i) L then some (pc + 1, lc, Value.int (xs (Int32.ofInt i).toNatClampNeg) :: st, jj_h Z Y (L, xs)) else none) := rfl
  rw [e0, i_clamp (by omega), if_pos (i_inb h0 h1 hL)]
  show some (pc + 1, lc, Value.int (xs i.toNat) :: st, jj_h Z Y (L, xs)) = some (pc + 1, lc, Value.int (Int32.ofInt (xs i.toNat).toInt) :: st, jj_h Z Y (L, xs))
  rw [Int32.ofInt_toInt]
theorem xo_slen {d : Nat} {M : jj_M} {pc : Nat} {lc st : List Value} {Z Y : Nat → Nat → Int} {S : Nat × (Nat → Int32)} {Q : Option Value → jj_Hp → Prop} {xs : Nat → Int32} {L : Nat} (hd : decode M.1.2 pc = .ok (.arraylength, 1)) (k : jj_Ex d M (pc + 1) lc (iv (L : Nat) :: st) (jj_h Z Y (L, xs)) Q) : jj_Ex d M pc lc (.ref jj_sc :: st) (jj_h Z Y (L, xs)) Q := by
  exact Eq.mpr (jj_xs (P := (pc + 1, lc, iv (L : Nat) :: st, jj_h Z Y (L, xs))) hd rfl rfl rfl rfl) k
theorem xo_alen {d : Nat} {M : jj_M} {pc : Nat} {lc st : List Value} {Z Y : Nat → Nat → Int} {S : Nat × (Nat → Int32)} {Q : Option Value → jj_Hp → Prop} {a n : Nat} {ty : FieldType} (hd : decode M.1.2 pc = .ok (.arraylength, 1)) (hs : jj_sh[a]? = some (.inr (ty, n))) (k : jj_Ex d M (pc + 1) lc (iv (n : Nat) :: st) (jj_h Z Y S) Q) : jj_Ex d M pc lc (.ref a :: st) (jj_h Z Y S) Q := by
  have ha : a < 46 := jj_sh_lt hs
  rw [jj_xs (P := (pc + 1, lc, iv (n : Nat) :: st, jj_h Z Y S)) hd rfl rfl rfl (by
    show (if a = jj_sc then _ else (match jj_sh[a]? with
      | some (.inr (_, n)) => some (pc + 1, lc, Value.int (Int32.ofNat n) :: st, jj_h Z Y S)
      | _ => none)) = _
    rw [if_neg (by show a ≠ 1000; omega), hs]
    rfl)]
  exact k
theorem xo_iret {d : Nat} {M : jj_M} {pc : Nat} {lc : List Value} {Z Y : Nat → Nat → Int} {S : Nat × (Nat → Int32)} {Q : Option Value → jj_Hp → Prop} {x : Int} (hd : decode M.1.2 pc = .ok (.ireturn, 1)) (hr : M.2.2.1 = some .int) (k : Q (some (iv x)) (jj_h Z Y S)) : jj_Ex d M pc lc [iv x] (jj_h Z Y S) Q := by
  rw [jj_xf (r := some (iv x)) hd rfl (by rw [hr]; rfl)]
  exact k
theorem xo_zret {d : Nat} {M : jj_M} {pc : Nat} {lc : List Value} {Z Y : Nat → Nat → Int} {S : Nat × (Nat → Int32)} {Q : Option Value → jj_Hp → Prop} {x : Int} (hd : decode M.1.2 pc = .ok (.ireturn, 1)) (hr : M.2.2.1 = some .boolean) (h01 : x = 0 ∨ x = 1) (k : Q (some (iv x)) (jj_h Z Y S)) : jj_Ex d M pc lc [iv x] (jj_h Z Y S) Q := by
  rw [jj_xf (r := some (iv x)) hd rfl (by rw [hr]; rcases h01 with rfl | rfl <;> rfl)]
  exact k
theorem xo_lret {d : Nat} {M : jj_M} {pc : Nat} {lc : List Value} {Z Y : Nat → Nat → Int} {S : Nat × (Nat → Int32)} {Q : Option Value → jj_Hp → Prop} {x : Int} (hd : decode M.1.2 pc = .ok (.lreturn, 1)) (hr : M.2.2.1 = some .long) (k : Q (some (lv x)) (jj_h Z Y S)) : jj_Ex d M pc lc [lv x] (jj_h Z Y S) Q := by
  rw [jj_xf (r := some (lv x)) hd rfl (by rw [hr]; rfl)]
  exact k
theorem xo_aret {d : Nat} {M : jj_M} {pc : Nat} {lc : List Value} {Z Y : Nat → Nat → Int} {S : Nat × (Nat → Int32)} {Q : Option Value → jj_Hp → Prop} {x : Nat} (hd : decode M.1.2 pc = .ok (.areturn, 1)) (hr : jj_aok M.2.2.1 = true) (k : Q (some (.ref x)) (jj_h Z Y S)) : jj_Ex d M pc lc [.ref x] (jj_h Z Y S) Q := by
  refine Eq.mpr (jj_xf (r := some (.ref x)) hd rfl ?_) k
  exact if_pos hr
theorem xo_vret {d : Nat} {M : jj_M} {pc : Nat} {lc : List Value} {Z Y : Nat → Nat → Int} {S : Nat × (Nat → Int32)} {Q : Option Value → jj_Hp → Prop} (hd : decode M.1.2 pc = .ok (.return_, 1)) (hr : M.2.2.1 = none) (k : Q none (jj_h Z Y S)) : jj_Ex d M pc lc [] (jj_h Z Y S) Q := by
  refine Eq.mpr (jj_xf (r := none) hd rfl ?_) k
  exact if_pos hr
/-- calls, by what they give back -/
def jj_Ci (d : Nat) (M : jj_M) (vs : List Value) (h : jj_Hp) (K : Int → jj_Hp → Prop) : Prop := jj_Ca d M vs h (fun r h1 => ∃ x, r = some (iv x) ∧ K x h1)
def jj_Cl (d : Nat) (M : jj_M) (vs : List Value) (h : jj_Hp) (K : Int → jj_Hp → Prop) : Prop := jj_Ca d M vs h (fun r h1 => ∃ x, r = some (lv x) ∧ K x h1)
def jj_Cr (d : Nat) (M : jj_M) (vs : List Value) (h : jj_Hp) (K : Nat → jj_Hp → Prop) : Prop := jj_Ca d M vs h (fun r h1 => ∃ x, r = some (.ref x) ∧ K x h1)
def jj_Cv (d : Nat) (M : jj_M) (vs : List Value) (h : jj_Hp) (K : jj_Hp → Prop) : Prop := jj_Ca d M vs h (fun r h1 => r = none ∧ K h1)
theorem xo_calli {d : Nat} {M M' : jj_M} {pc len : Nat} {ins : Instr} {lc st vs rest : List Value} {h : jj_Hp} {Q : Option Value → jj_Hp → Prop} (hd : decode M.1.2 pc = .ok (ins, len)) (hl : jj_len ins len = len) (hf : jj_fin M.2.2.1 ins st = none) (hc : jj_cal M.2.2.2.1 ins st = some (M', vs, rest)) (hk : jj_cok (M', vs, rest) = true) (k : jj_Ci d M' vs h (fun x h1 => jj_Ex (d + 1) M (pc + 3) lc (iv x :: rest) h1 Q)) : jj_Ex (d + 1) M pc lc st h Q := by
  rw [jj_xc hd hl hf hc hk]
  refine jj_Ca.imp k (fun r h1 b => ?_)
  obtain ⟨x, rfl, b⟩ := b
  exact b
theorem xo_calll {d : Nat} {M M' : jj_M} {pc len : Nat} {ins : Instr} {lc st vs rest : List Value} {h : jj_Hp} {Q : Option Value → jj_Hp → Prop} (hd : decode M.1.2 pc = .ok (ins, len)) (hl : jj_len ins len = len) (hf : jj_fin M.2.2.1 ins st = none) (hc : jj_cal M.2.2.2.1 ins st = some (M', vs, rest)) (hk : jj_cok (M', vs, rest) = true) (k : jj_Cl d M' vs h (fun x h1 => jj_Ex (d + 1) M (pc + 3) lc (lv x :: rest) h1 Q)) : jj_Ex (d + 1) M pc lc st h Q := by
  rw [jj_xc hd hl hf hc hk]
  refine jj_Ca.imp k (fun r h1 b => ?_)
  obtain ⟨x, rfl, b⟩ := b
  exact b
theorem xo_callr {d : Nat} {M M' : jj_M} {pc len : Nat} {ins : Instr} {lc st vs rest : List Value} {h : jj_Hp} {Q : Option Value → jj_Hp → Prop} (hd : decode M.1.2 pc = .ok (ins, len)) (hl : jj_len ins len = len) (hf : jj_fin M.2.2.1 ins st = none) (hc : jj_cal M.2.2.2.1 ins st = some (M', vs, rest)) (hk : jj_cok (M', vs, rest) = true) (k : jj_Cr d M' vs h (fun x h1 => jj_Ex (d + 1) M (pc + 3) lc (.ref x :: rest) h1 Q)) : jj_Ex (d + 1) M pc lc st h Q := by
  rw [jj_xc hd hl hf hc hk]
  refine jj_Ca.imp k (fun r h1 b => ?_)
  obtain ⟨x, rfl, b⟩ := b
  exact b
theorem xo_callv {d : Nat} {M M' : jj_M} {pc len : Nat} {ins : Instr} {lc st vs rest : List Value} {h : jj_Hp} {Q : Option Value → jj_Hp → Prop} (hd : decode M.1.2 pc = .ok (ins, len)) (hl : jj_len ins len = len) (hf : jj_fin M.2.2.1 ins st = none) (hc : jj_cal M.2.2.2.1 ins st = some (M', vs, rest)) (hk : jj_cok (M', vs, rest) = true) (k : jj_Cv d M' vs h (fun h1 => jj_Ex (d + 1) M (pc + 3) lc (rest) h1 Q)) : jj_Ex (d + 1) M pc lc st h Q := by
  rw [jj_xc hd hl hf hc hk]
  refine jj_Ca.imp k (fun r h1 b => ?_)
  obtain ⟨rfl, b⟩ := b
  exact b
end

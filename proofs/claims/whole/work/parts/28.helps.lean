/-! division that rounds down; bits counted -/
theorem ed_t {x y : Int} (hy : 0 < y) : (x.tdiv y = x / y ∧ (0 ≤ x ∨ x.tdiv y * y = x) ∧ 0 ≤ x.tmod y) ∨ (x < 0 ∧ x.tdiv y * y ≠ x ∧ x.tdiv y = x / y + 1 ∧ x.tmod y < 0) := by
  have h1 : x.tmod y = x - y * x.tdiv y := Int.tmod_def x y
  by_cases h : 0 ≤ x
  · have e := Int.tdiv_eq_ediv_of_nonneg (b := y) h
    have h2 := Int.emod_nonneg x (show y ≠ 0 by omega)
    have h3 : x % y = x - y * (x / y) := Int.emod_def x y
    refine Or.inl ⟨e, Or.inl h, ?_⟩
    rw [h1, e]; omega
  · have e : x.tdiv y = -((-x) / y) := by
      have := Int.neg_tdiv (-x) y
      rw [Int.neg_neg] at this
      rw [this, Int.tdiv_eq_ediv_of_nonneg (by omega)]
    have h2 := Int.emod_nonneg (-x) (show y ≠ 0 by omega)
    have h3 : -x % y = -x - y * (-x / y) := Int.emod_def (-x) y
    have h4 := Int.emod_lt_of_pos (-x) hy
    have e1 : y * x.tdiv y = - (y * (-x / y)) := by rw [e, Int.mul_neg]
    have e2 : x.tdiv y * y = y * x.tdiv y := Int.mul_comm _ _
    by_cases hz : -x % y = 0
    · have hq := (Int.ediv_emod_unique (a := x) (b := y) (r := 0) (q := x.tdiv y) hy).2 ⟨by omega, by omega, hy⟩
      exact Or.inl ⟨hq.1.symm, Or.inr (by omega), by omega⟩
    · have e3 : y * (x.tdiv y - 1) = y * x.tdiv y - y := by rw [Int.mul_sub, Int.mul_one]
      have hq := (Int.ediv_emod_unique (a := x) (b := y) (r := x - y * (x.tdiv y - 1)) (q := x.tdiv y - 1) hy).2 ⟨by omega, by omega, by omega⟩
      exact Or.inr ⟨by omega, by omega, by omega, by omega⟩
theorem xor_ge {x y : Int} (hx : -2147483648 ≤ x ∧ x ≤ 2147483647) (hy : 0 ≤ y ∧ y ≤ 2147483647) : (0 : Int32) ≤ Int32.ofInt x ^^^ Int32.ofInt y ↔ 0 ≤ x := by
  have e1 : (Int32.ofInt x).toBitVec.msb = decide (x < 0) := by
    rw [BitVec.msb_eq_toInt]
    have := i_toInt hx
    rw [show (Int32.ofInt x).toBitVec.toInt = (Int32.ofInt x).toInt from rfl, this]
  have e2 : (Int32.ofInt y).toBitVec.msb = decide (y < 0) := by
    rw [BitVec.msb_eq_toInt]
    have := i_toInt (z := y) (by omega)
    rw [show (Int32.ofInt y).toBitVec.toInt = (Int32.ofInt y).toInt from rfl, this]
  have e3 : (Int32.ofInt x ^^^ Int32.ofInt y).toBitVec.msb = decide (x < 0) := by
    rw [Int32.toBitVec_xor, BitVec.msb_xor, e1, e2, decide_eq_false (show ¬ y < 0 by omega), Bool.xor_false]
  rw [BitVec.msb_eq_toInt] at e3
  rw [Int32.le_iff_toInt_le]
  have e4 : (Int32.ofInt x ^^^ Int32.ofInt y).toBitVec.toInt = (Int32.ofInt x ^^^ Int32.ofInt y).toInt := rfl
  rw [e4] at e3
  have e5 : ((Int32.ofInt x ^^^ Int32.ofInt y).toInt < 0) ↔ x < 0 := by
    constructor
    · intro h
      rw [decide_eq_true h] at e3
      exact of_decide_eq_true e3.symm
    · intro h
      rw [decide_eq_true h] at e3
      exact of_decide_eq_true e3
  have e6 : (0 : Int32).toInt = 0 := rfl
  rw [e6]
  omega
section FD
variable {d : Nat} {M : jj_M} {pc : Nat} {lc st : List Value} {Z Y : Nat → Nat → Int} {S : Nat × (Nat → Int32)} {Q : Option Value → jj_Hp → Prop} {Ki : Int → jj_Hp → Prop}
theorem xo_xge {x y off : Int} {t : Nat} (hd : decode M.1.2 pc = .ok (.ixor, 1)) (hd2 : decode M.1.2 (pc + 1) = .ok (.ifCond .ge off, 3)) (ht : jj_jmp (pc + 1) off = some t) (hx : -2147483648 ≤ x ∧ x ≤ 2147483647) (hy : 0 ≤ y ∧ y ≤ 2147483647) (kt : 0 ≤ x → jj_Ex d M t lc st (jj_h Z Y S) Q) (kf : ¬ 0 ≤ x → jj_Ex d M (pc + 4) lc st (jj_h Z Y S) Q) : jj_Ex d M pc lc (iv y :: iv x :: st) (jj_h Z Y S) Q := by
  refine Eq.mpr (jj_xs (P := (pc + 1, lc, .int (Int32.ofInt x ^^^ Int32.ofInt y) :: st, jj_h Z Y S)) hd rfl rfl rfl rfl) ?_
  refine Eq.mpr (jj_xs (P := (if jj_c1 .ge (Int32.ofInt x ^^^ Int32.ofInt y) then t else pc + 4, lc, st, jj_h Z Y S)) hd2 rfl rfl rfl (by show (jj_jmp (pc + 1) off).map _ = _; rw [ht]; rfl)) ?_
  by_cases h : 0 ≤ x
  · have e : jj_c1 .ge (Int32.ofInt x ^^^ Int32.ofInt y) = true := decide_eq_true ((xor_ge hx hy).2 h)
    rw [e]; exact kt h
  · have e : jj_c1 .ge (Int32.ofInt x ^^^ Int32.ofInt y) = false := decide_eq_false (fun z => h ((xor_ge hx hy).1 z))
    rw [e]; exact kf h
theorem kJ9_floorDiv_7cf53 {x y : Int} (hx : -100000 ≤ x ∧ x ≤ 100000) (hy : 0 < y ∧ y ≤ 100) (k : Ki (x / y) (jj_h Z Y S)) : jj_Ci d mJ9_floorDiv_7cf53 [iv x, iv y] (jj_h Z Y S) Ki := by
  have hq := ed_t (x := x) hy.1
  have hqb : -100000 ≤ x.tdiv y * y ∧ x.tdiv y * y ≤ 100000 := by
    have h1 : x.tmod y = x - y * x.tdiv y := Int.tmod_def x y
    have e2 : x.tdiv y * y = y * x.tdiv y := Int.mul_comm _ _
    by_cases h : 0 ≤ x
    · have := Int.tmod_nonneg y h
      have h5 : 0 ≤ x.tdiv y * y := Int.mul_nonneg (Int.tdiv_nonneg h (by omega)) (by omega)
      omega
    · have h6 : (-x).tmod y = -(x.tmod y) := Int.neg_tmod x y
      have h7 := Int.tmod_nonneg y (show 0 ≤ -x by omega)
      have h8 : 0 ≤ (-x).tdiv y * y := Int.mul_nonneg (Int.tdiv_nonneg (by omega) (by omega)) (by omega)
      rw [Int.neg_tdiv, Int.neg_mul] at h8
      omega
  refine nJ9_floorDiv_7cf53 (xo_iload_n dJ9_floorDiv_7cf53_0 rfl (xo_iload_n dJ9_floorDiv_7cf53_1 rfl (xo_idiv dJ9_floorDiv_7cf53_2 (by omega) (by omega) (by omega) (xo_istore_n (lc' := [iv x, iv y, iv (x.tdiv y)]) dJ9_floorDiv_7cf53_3 (Nat.le_of_ble_eq_true rfl) rfl (xo_iload_n dJ9_floorDiv_7cf53_4 rfl (xo_iload_n dJ9_floorDiv_7cf53_5 rfl (xo_xge (t := 21) dJ9_floorDiv_7cf53_6 dJ9_floorDiv_7cf53_7 rfl (by omega) (by omega) (fun h => ?_) (fun h => ?_))))))))
  · refine xo_iload_n dJ9_floorDiv_7cf53_21 rfl (xo_iret dJ9_floorDiv_7cf53_22 rfl ⟨_, rfl, ?_⟩)
    rcases hq with hq | hq
    · rw [hq.1]; exact k
    · omega
  · refine xo_iload_n dJ9_floorDiv_7cf53_10 rfl (xo_iload_n dJ9_floorDiv_7cf53_11 rfl (xo_imul dJ9_floorDiv_7cf53_12 (xo_iload_n dJ9_floorDiv_7cf53_13 rfl (xo_icmp_eq (t := 21) dJ9_floorDiv_7cf53_14 rfl (by omega) (by omega) (fun h2 => ?_) (fun h2 => ?_)))))
    · refine xo_iload_n dJ9_floorDiv_7cf53_21 rfl (xo_iret dJ9_floorDiv_7cf53_22 rfl ⟨_, rfl, ?_⟩)
      rcases hq with hq | hq
      · rw [hq.1]; exact k
      · omega
    · refine xo_iload_n dJ9_floorDiv_7cf53_17 rfl (xo_iconst dJ9_floorDiv_7cf53_18 rfl (xo_isub dJ9_floorDiv_7cf53_19 (xo_iret dJ9_floorDiv_7cf53_20 rfl ⟨_, rfl, ?_⟩)))
      rcases hq with hq | hq
      · omega
      · rw [hq.2.2.1, show x / y + 1 - 1 = x / y by omega]; exact k
theorem kX5_floor {x y : Int} (hx : -100000 ≤ x ∧ x ≤ 100000) (hy : 0 < y ∧ y ≤ 100) (k : Ki (x / y) (jj_h Z Y S)) : jj_Ci d mX5_floor [iv x, iv y] (jj_h Z Y S) Ki := by
  have hq := ed_t (x := x) hy.1
  have hm : -100 ≤ x.tmod y ∧ x.tmod y ≤ 100 := by
    have h1 := Int.tmod_lt_of_pos x hy.1
    have h2 := Int.tmod_lt_of_pos (-x) hy.1
    rw [Int.neg_tmod] at h2
    omega
  refine nX5_floor (bX5_floor_0 (by omega) (by omega) (by omega) (by omega) (fun h => bX5_floor_14 (by omega) (by omega) (by omega) ⟨_, rfl, ?_⟩) (fun h => bX5_floor_6 (by omega) (by omega) (by omega) ⟨_, rfl, ?_⟩))
  · rcases hq with hq | hq
    · rw [hq.1]; exact k
    · omega
  · rcases hq with hq | hq
    · omega
    · rw [hq.2.2.1, show x / y + 1 - 1 = x / y by omega]; exact k
theorem xo_irem_m (hd : decode M.1.2 pc = .ok (.irem, 1)) (k : jj_Ex d M (pc + 1) lc (iv (-8) :: st) (jj_h Z Y S) Q) : jj_Ex d M pc lc (iv 10 :: iv (-2147483648) :: st) (jj_h Z Y S) Q := by
  refine Eq.mpr (jj_xs (P := (pc + 1, lc, iv (-8) :: st, jj_h Z Y S)) hd rfl rfl rfl ?_) k
  show (if Int32.ofInt 10 = 0 then none else some (pc + 1, lc, Value.int (Int32.ofInt (-2147483648) - Int32.ofInt (-2147483648) / Int32.ofInt 10 * Int32.ofInt 10) :: st, jj_h Z Y S)) = _
  rw [if_neg (by decide), show Int32.ofInt (-2147483648) - Int32.ofInt (-2147483648) / Int32.ofInt 10 * Int32.ofInt 10 = Int32.ofInt (-8) by decide +kernel]
  rfl
theorem bX5_told_72m {a2 a3 : Int} (k : jj_Ci d mX5_in [lv (-2147483648), lv 10, lv 29] (jj_h Z Y S) (fun x h1 => jj_Ex (d + 1) mX5_told 88 [.ref 27, iv (-2147483648), iv a2, iv (-8)] [iv x] h1 Q)) : jj_Ex (d + 1) mX5_told 72 [.ref 27, iv (-2147483648), iv a2, iv a3] [] (jj_h Z Y S) Q :=
  xo_iload_n dX5_told_72 rfl (xo_bipush (z := 10) dX5_told_73 rfl (xo_irem_m dX5_told_75 (xo_istore_n (lc' := [.ref 27, iv (-2147483648), iv a2, iv (-8)]) dX5_told_76 (Nat.le_of_ble_eq_true rfl) rfl (xo_iload_n dX5_told_77 rfl (xo_i2l dX5_told_78 (by omega) (xo_ldc2_w (z := 10) dX5_told_79 rfl (xo_ldc2_w (z := 29) dX5_told_82 rfl (xo_calli dX5_told_85 rfl rfl rfl rfl k))))))))
/-- how many of the six bits are set -/
def bcn (n : Nat) : Nat := n % 2 + n / 2 % 2 + n / 4 % 2 + n / 8 % 2 + n / 16 % 2 + n / 32 % 2
def bcu (x : Int32) (n : Int32) : Int32 := (x.toUInt32 >>> (n.toUInt32 &&& Int32.toUInt32 31)).toInt32
def bcE (x0 : Int32) : Int32 :=
  let x1 := x0 - (bcu x0 1 &&& 1431655765)
  let x2 := (x1 &&& 858993459) + (bcu x1 2 &&& 858993459)
  let x3 := (x2 + bcu x2 4) &&& 252645135
  let x4 := x3 + bcu x3 8
  let x5 := x4 + bcu x4 16
  x5 &&& 63
theorem bcE_n : ∀ n : Nat, n < 64 → bcE (Int32.ofInt (n : Int)) = Int32.ofInt ((bcn n : Nat) : Int) := by decide +kernel
theorem xJ6_bitCount {x : Int32} (k : Q (some (.int (bcE x))) (jj_h Z Y S)) : jj_Ex d mJ6_bitCount_0f7a4 0 [.int x] [] (jj_h Z Y S) Q := by
  refine Eq.mpr (jj_xs dJ6_bitCount_0f7a4_0 rfl rfl rfl rfl) ?_
  refine Eq.mpr (jj_xs dJ6_bitCount_0f7a4_1 rfl rfl rfl rfl) ?_
  refine Eq.mpr (jj_xs dJ6_bitCount_0f7a4_2 rfl rfl rfl rfl) ?_
  refine Eq.mpr (jj_xs dJ6_bitCount_0f7a4_3 rfl rfl rfl rfl) ?_
  refine Eq.mpr (jj_xs dJ6_bitCount_0f7a4_4 rfl rfl rfl rfl) ?_
  refine Eq.mpr (jj_xs dJ6_bitCount_0f7a4_7 rfl rfl rfl rfl) ?_
  refine Eq.mpr (jj_xs dJ6_bitCount_0f7a4_8 rfl rfl rfl rfl) ?_
  refine Eq.mpr (jj_xs dJ6_bitCount_0f7a4_9 rfl rfl rfl rfl) ?_
  refine Eq.mpr (jj_xs dJ6_bitCount_0f7a4_10 rfl rfl rfl rfl) ?_
  refine Eq.mpr (jj_xs dJ6_bitCount_0f7a4_11 rfl rfl rfl rfl) ?_
  refine Eq.mpr (jj_xs dJ6_bitCount_0f7a4_14 rfl rfl rfl rfl) ?_
  refine Eq.mpr (jj_xs dJ6_bitCount_0f7a4_15 rfl rfl rfl rfl) ?_
  refine Eq.mpr (jj_xs dJ6_bitCount_0f7a4_16 rfl rfl rfl rfl) ?_
  refine Eq.mpr (jj_xs dJ6_bitCount_0f7a4_17 rfl rfl rfl rfl) ?_
  refine Eq.mpr (jj_xs dJ6_bitCount_0f7a4_18 rfl rfl rfl rfl) ?_
  refine Eq.mpr (jj_xs dJ6_bitCount_0f7a4_21 rfl rfl rfl rfl) ?_
  refine Eq.mpr (jj_xs dJ6_bitCount_0f7a4_22 rfl rfl rfl rfl) ?_
  refine Eq.mpr (jj_xs dJ6_bitCount_0f7a4_23 rfl rfl rfl rfl) ?_
  refine Eq.mpr (jj_xs dJ6_bitCount_0f7a4_24 rfl rfl rfl rfl) ?_
  refine Eq.mpr (jj_xs dJ6_bitCount_0f7a4_25 rfl rfl rfl rfl) ?_
  refine Eq.mpr (jj_xs dJ6_bitCount_0f7a4_26 rfl rfl rfl rfl) ?_
  refine Eq.mpr (jj_xs dJ6_bitCount_0f7a4_27 rfl rfl rfl rfl) ?_
  refine Eq.mpr (jj_xs dJ6_bitCount_0f7a4_28 rfl rfl rfl rfl) ?_
  refine Eq.mpr (jj_xs dJ6_bitCount_0f7a4_29 rfl rfl rfl rfl) ?_
  refine Eq.mpr (jj_xs dJ6_bitCount_0f7a4_32 rfl rfl rfl rfl) ?_
  refine Eq.mpr (jj_xs dJ6_bitCount_0f7a4_33 rfl rfl rfl rfl) ?_
  refine Eq.mpr (jj_xs dJ6_bitCount_0f7a4_34 rfl rfl rfl rfl) ?_
  refine Eq.mpr (jj_xs dJ6_bitCount_0f7a4_35 rfl rfl rfl rfl) ?_
  refine Eq.mpr (jj_xs dJ6_bitCount_0f7a4_36 rfl rfl rfl rfl) ?_
  refine Eq.mpr (jj_xs dJ6_bitCount_0f7a4_38 rfl rfl rfl rfl) ?_
  refine Eq.mpr (jj_xs dJ6_bitCount_0f7a4_39 rfl rfl rfl rfl) ?_
  refine Eq.mpr (jj_xs dJ6_bitCount_0f7a4_40 rfl rfl rfl rfl) ?_
  refine Eq.mpr (jj_xs dJ6_bitCount_0f7a4_41 rfl rfl rfl rfl) ?_
  refine Eq.mpr (jj_xs dJ6_bitCount_0f7a4_42 rfl rfl rfl rfl) ?_
  refine Eq.mpr (jj_xs dJ6_bitCount_0f7a4_43 rfl rfl rfl rfl) ?_
  refine Eq.mpr (jj_xs dJ6_bitCount_0f7a4_45 rfl rfl rfl rfl) ?_
  refine Eq.mpr (jj_xs dJ6_bitCount_0f7a4_46 rfl rfl rfl rfl) ?_
  refine Eq.mpr (jj_xs dJ6_bitCount_0f7a4_47 rfl rfl rfl rfl) ?_
  refine Eq.mpr (jj_xs dJ6_bitCount_0f7a4_48 rfl rfl rfl rfl) ?_
  refine Eq.mpr (jj_xs dJ6_bitCount_0f7a4_49 rfl rfl rfl rfl) ?_
  refine Eq.mpr (jj_xs dJ6_bitCount_0f7a4_51 rfl rfl rfl rfl) ?_
  refine Eq.mpr (jj_xf (r := some (.int (bcE x))) dJ6_bitCount_0f7a4_52 rfl rfl) ?_
  exact k
theorem kJ6_bitCount {n : Nat} (hn : n < 64) (k : Ki (bcn n : Nat) (jj_h Z Y S)) : jj_Ci d mJ6_bitCount_0f7a4 [iv (n : Int)] (jj_h Z Y S) Ki := by
  refine nJ6_bitCount_0f7a4 (xJ6_bitCount ⟨_, ?_, k⟩)
  rw [bcE_n n hn]
  rfl
end FD

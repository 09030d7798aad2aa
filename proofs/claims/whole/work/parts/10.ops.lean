/-! each instruction, goal first, over whole numbers -/
theorem o_add (x y : Int) : Int32.ofInt x + Int32.ofInt y = Int32.ofInt (x + y) := (Int32.ofInt_add x y).symm
theorem o_sub (x y : Int) : Int32.ofInt x - Int32.ofInt y = Int32.ofInt (x - y) := (Int32.ofInt_sub x y).symm
theorem o_mul (x y : Int) : Int32.ofInt x * Int32.ofInt y = Int32.ofInt (x * y) := (Int32.ofInt_mul x y).symm
theorem o_neg (x : Int) : - Int32.ofInt x = Int32.ofInt (-x) := (Int32.ofInt_neg x).symm
theorem q_add (x y : Int) : Int64.ofInt x + Int64.ofInt y = Int64.ofInt (x + y) := (Int64.ofInt_add x y).symm
theorem q_sub (x y : Int) : Int64.ofInt x - Int64.ofInt y = Int64.ofInt (x - y) := (Int64.ofInt_sub x y).symm
theorem q_mul (x y : Int) : Int64.ofInt x * Int64.ofInt y = Int64.ofInt (x * y) := (Int64.ofInt_mul x y).symm
theorem q_neg (x : Int) : - Int64.ofInt x = Int64.ofInt (-x) := (Int64.ofInt_neg x).symm
theorem o_div {x y : Int} (hx : -2147483647 ≤ x ∧ x ≤ 2147483647) (hy : -2147483648 ≤ y ∧ y ≤ 2147483647) : Int32.ofInt x / Int32.ofInt y = Int32.ofInt (x.tdiv y) := by
  apply Int32.toInt_inj.mp
  rw [Int32.toInt_div_of_ne_left _ _ (by
    intro q
    have := congrArg Int32.toInt q
    rw [i_toInt (by omega)] at this
    have h2 : Int32.minValue.toInt = -2147483648 := by decide
    omega), i_toInt (by omega), i_toInt hy]
  have hb : -2147483647 ≤ x.tdiv y ∧ x.tdiv y ≤ 2147483647 := by
    have h1 := Int.natAbs_tdiv_le_natAbs x y
    omega
  rw [i_toInt (by omega)]
theorem q_div {x y : Int} (hx : -9223372036854775807 ≤ x ∧ x ≤ 9223372036854775807) (hy : -9223372036854775808 ≤ y ∧ y ≤ 9223372036854775807) : Int64.ofInt x / Int64.ofInt y = Int64.ofInt (x.tdiv y) := by
  apply Int64.toInt_inj.mp
  rw [Int64.toInt_div_of_ne_left _ _ (by
    intro q
    have := congrArg Int64.toInt q
    rw [l_toInt (by omega)] at this
    have h2 : Int64.minValue.toInt = -9223372036854775808 := by decide
    omega), l_toInt (by omega), l_toInt hy]
  have hb : -9223372036854775807 ≤ x.tdiv y ∧ x.tdiv y ≤ 9223372036854775807 := by
    have h1 := Int.natAbs_tdiv_le_natAbs x y
    omega
  rw [l_toInt (by omega)]
theorem xo_iconst {d : Nat} {M : jj_M} {pc : Nat} {lc st : List Value} {Z Y : Nat → Nat → Int} {S : Nat × (Nat → Int32)} {Q : Option Value → jj_Hp → Prop} {q z : Int} (hd : decode M.1.2 pc = .ok (.iconst q, 1)) (hz : q = z) (k : jj_Ex d M (pc + 1) lc (iv z :: st) (jj_h Z Y S) Q) : jj_Ex d M pc lc st (jj_h Z Y S) Q := by
  subst hz
  rw [jj_xs hd rfl rfl rfl rfl]
  exact k
theorem xo_bipush {d : Nat} {M : jj_M} {pc : Nat} {lc st : List Value} {Z Y : Nat → Nat → Int} {S : Nat × (Nat → Int32)} {Q : Option Value → jj_Hp → Prop} {q z : Int} (hd : decode M.1.2 pc = .ok (.bipush q, 2)) (hz : (Int8.ofInt q).toInt32 = Int32.ofInt z) (k : jj_Ex d M (pc + 2) lc (iv z :: st) (jj_h Z Y S) Q) : jj_Ex d M pc lc st (jj_h Z Y S) Q := by
  rw [jj_xs hd rfl rfl rfl rfl]
  unfold iv at k
  rw [← hz] at k
  exact k
theorem xo_sipush {d : Nat} {M : jj_M} {pc : Nat} {lc st : List Value} {Z Y : Nat → Nat → Int} {S : Nat × (Nat → Int32)} {Q : Option Value → jj_Hp → Prop} {q z : Int} (hd : decode M.1.2 pc = .ok (.sipush q, 3)) (hz : (Int16.ofInt q).toInt32 = Int32.ofInt z) (k : jj_Ex d M (pc + 3) lc (iv z :: st) (jj_h Z Y S) Q) : jj_Ex d M pc lc st (jj_h Z Y S) Q := by
  rw [jj_xs hd rfl rfl rfl rfl]
  unfold iv at k
  rw [← hz] at k
  exact k
theorem xo_lconst {d : Nat} {M : jj_M} {pc : Nat} {lc st : List Value} {Z Y : Nat → Nat → Int} {S : Nat × (Nat → Int32)} {Q : Option Value → jj_Hp → Prop} {q : Fin 2} {z : Int} (hd : decode M.1.2 pc = .ok (.lconst q, 1)) (hz : Int64.ofNat (q : Nat) = Int64.ofInt z) (k : jj_Ex d M (pc + 1) lc (lv z :: st) (jj_h Z Y S) Q) : jj_Ex d M pc lc st (jj_h Z Y S) Q := by
  rw [jj_xs hd rfl rfl rfl rfl]
  unfold lv at k
  rw [← hz] at k
  exact k
theorem xo_ldc {d : Nat} {M : jj_M} {pc : Nat} {lc st : List Value} {Z Y : Nat → Nat → Int} {S : Nat × (Nat → Int32)} {Q : Option Value → jj_Hp → Prop} {i : Nat} {z : Int} (hd : decode M.1.2 pc = .ok (.ldc i, 2)) (hz : jj_ldc M.2.2.2.1 i = some (Int32.ofInt z)) (k : jj_Ex d M (pc + 2) lc (iv z :: st) (jj_h Z Y S) Q) : jj_Ex d M pc lc st (jj_h Z Y S) Q := by
  rw [jj_xs (P := (pc + 2, lc, iv z :: st, jj_h Z Y S)) hd rfl rfl rfl (by show (jj_ldc M.2.2.2.1 i).map _ = _; rw [hz]; rfl)]
  exact k
theorem xo_ldc_w {d : Nat} {M : jj_M} {pc : Nat} {lc st : List Value} {Z Y : Nat → Nat → Int} {S : Nat × (Nat → Int32)} {Q : Option Value → jj_Hp → Prop} {i : Nat} {z : Int} (hd : decode M.1.2 pc = .ok (.ldc_w i, 3)) (hz : jj_ldc M.2.2.2.1 i = some (Int32.ofInt z)) (k : jj_Ex d M (pc + 3) lc (iv z :: st) (jj_h Z Y S) Q) : jj_Ex d M pc lc st (jj_h Z Y S) Q := by
  rw [jj_xs (P := (pc + 3, lc, iv z :: st, jj_h Z Y S)) hd rfl rfl rfl (by show (jj_ldc M.2.2.2.1 i).map _ = _; rw [hz]; rfl)]
  exact k
theorem xo_ldc2_w {d : Nat} {M : jj_M} {pc : Nat} {lc st : List Value} {Z Y : Nat → Nat → Int} {S : Nat × (Nat → Int32)} {Q : Option Value → jj_Hp → Prop} {i : Nat} {z : Int} (hd : decode M.1.2 pc = .ok (.ldc2_w i, 3)) (hz : jj_ldl M.2.2.2.1 i = some (Int64.ofInt z)) (k : jj_Ex d M (pc + 3) lc (lv z :: st) (jj_h Z Y S) Q) : jj_Ex d M pc lc st (jj_h Z Y S) Q := by
  rw [jj_xs (P := (pc + 3, lc, lv z :: st, jj_h Z Y S)) hd rfl rfl rfl (by show (jj_ldl M.2.2.2.1 i).map _ = _; rw [hz]; rfl)]
  exact k
theorem xo_iload {d : Nat} {M : jj_M} {pc : Nat} {lc st : List Value} {Z Y : Nat → Nat → Int} {S : Nat × (Nat → Int32)} {Q : Option Value → jj_Hp → Prop} {i : Nat} {x : Int} (hd : decode M.1.2 pc = .ok (.iload i, 2)) (hg : jj_gi lc i = some (Int32.ofInt x)) (k : jj_Ex d M (pc + 2) lc (iv x :: st) (jj_h Z Y S) Q) : jj_Ex d M pc lc st (jj_h Z Y S) Q := by
  rw [jj_xs (P := (pc + 2, lc, iv x :: st, jj_h Z Y S)) hd rfl rfl rfl (by show (jj_gi lc i).map _ = _; rw [hg]; rfl)]
  exact k
theorem xo_iload_n {d : Nat} {M : jj_M} {pc : Nat} {lc st : List Value} {Z Y : Nat → Nat → Int} {S : Nat × (Nat → Int32)} {Q : Option Value → jj_Hp → Prop} {i : Fin 4} {x : Int} (hd : decode M.1.2 pc = .ok (.iload_n i, 1)) (hg : jj_gi lc i = some (Int32.ofInt x)) (k : jj_Ex d M (pc + 1) lc (iv x :: st) (jj_h Z Y S) Q) : jj_Ex d M pc lc st (jj_h Z Y S) Q := by
  rw [jj_xs (P := (pc + 1, lc, iv x :: st, jj_h Z Y S)) hd rfl rfl rfl (by show (jj_gi lc i).map _ = _; rw [hg]; rfl)]
  exact k
theorem xo_lload {d : Nat} {M : jj_M} {pc : Nat} {lc st : List Value} {Z Y : Nat → Nat → Int} {S : Nat × (Nat → Int32)} {Q : Option Value → jj_Hp → Prop} {i : Nat} {x : Int} (hd : decode M.1.2 pc = .ok (.lload i, 2)) (hg : jj_gl lc i = some (Int64.ofInt x)) (k : jj_Ex d M (pc + 2) lc (lv x :: st) (jj_h Z Y S) Q) : jj_Ex d M pc lc st (jj_h Z Y S) Q := by
  rw [jj_xs (P := (pc + 2, lc, lv x :: st, jj_h Z Y S)) hd rfl rfl rfl (by show (jj_gl lc i).map _ = _; rw [hg]; rfl)]
  exact k
theorem xo_lload_n {d : Nat} {M : jj_M} {pc : Nat} {lc st : List Value} {Z Y : Nat → Nat → Int} {S : Nat × (Nat → Int32)} {Q : Option Value → jj_Hp → Prop} {i : Fin 4} {x : Int} (hd : decode M.1.2 pc = .ok (.lload_n i, 1)) (hg : jj_gl lc i = some (Int64.ofInt x)) (k : jj_Ex d M (pc + 1) lc (lv x :: st) (jj_h Z Y S) Q) : jj_Ex d M pc lc st (jj_h Z Y S) Q := by
  rw [jj_xs (P := (pc + 1, lc, lv x :: st, jj_h Z Y S)) hd rfl rfl rfl (by show (jj_gl lc i).map _ = _; rw [hg]; rfl)]
  exact k
theorem xo_aload {d : Nat} {M : jj_M} {pc : Nat} {lc st : List Value} {Z Y : Nat → Nat → Int} {S : Nat × (Nat → Int32)} {Q : Option Value → jj_Hp → Prop} {i : Nat} {x : Nat} (hd : decode M.1.2 pc = .ok (.aload i, 2)) (hg : jj_gr lc i = some (x)) (k : jj_Ex d M (pc + 2) lc (.ref x :: st) (jj_h Z Y S) Q) : jj_Ex d M pc lc st (jj_h Z Y S) Q := by
  rw [jj_xs (P := (pc + 2, lc, .ref x :: st, jj_h Z Y S)) hd rfl rfl rfl (by show (jj_gr lc i).map _ = _; rw [hg]; rfl)]
  exact k
theorem xo_aload_n {d : Nat} {M : jj_M} {pc : Nat} {lc st : List Value} {Z Y : Nat → Nat → Int} {S : Nat × (Nat → Int32)} {Q : Option Value → jj_Hp → Prop} {i : Fin 4} {x : Nat} (hd : decode M.1.2 pc = .ok (.aload_n i, 1)) (hg : jj_gr lc i = some (x)) (k : jj_Ex d M (pc + 1) lc (.ref x :: st) (jj_h Z Y S) Q) : jj_Ex d M pc lc st (jj_h Z Y S) Q := by
  rw [jj_xs (P := (pc + 1, lc, .ref x :: st, jj_h Z Y S)) hd rfl rfl rfl (by show (jj_gr lc i).map _ = _; rw [hg]; rfl)]
  exact k
theorem xo_istore {d : Nat} {M : jj_M} {pc : Nat} {lc st : List Value} {Z Y : Nat → Nat → Int} {S : Nat × (Nat → Int32)} {Q : Option Value → jj_Hp → Prop} {lc' : List Value} {i : Nat} {x : Int} (hd : decode M.1.2 pc = .ok (.istore i, 2)) (hi : (i : Nat) < lc.length) (hl : jj_set lc i (iv x) = lc') (k : jj_Ex d M (pc + 2) lc' st (jj_h Z Y S) Q) : jj_Ex d M pc lc (iv x :: st) (jj_h Z Y S) Q := by
  subst hl
  refine Eq.mpr (jj_xs (P := (pc + 2, jj_set lc i (iv x), st, jj_h Z Y S)) hd rfl rfl rfl ?_) k
  exact if_pos hi
theorem xo_istore_n {d : Nat} {M : jj_M} {pc : Nat} {lc st : List Value} {Z Y : Nat → Nat → Int} {S : Nat × (Nat → Int32)} {Q : Option Value → jj_Hp → Prop} {lc' : List Value} {i : Fin 4} {x : Int} (hd : decode M.1.2 pc = .ok (.istore_n i, 1)) (hi : (i : Nat) < lc.length) (hl : jj_set lc i (iv x) = lc') (k : jj_Ex d M (pc + 1) lc' st (jj_h Z Y S) Q) : jj_Ex d M pc lc (iv x :: st) (jj_h Z Y S) Q := by
  subst hl
  refine Eq.mpr (jj_xs (P := (pc + 1, jj_set lc i (iv x), st, jj_h Z Y S)) hd rfl rfl rfl ?_) k
  exact if_pos hi
theorem xo_lstore {d : Nat} {M : jj_M} {pc : Nat} {lc st : List Value} {Z Y : Nat → Nat → Int} {S : Nat × (Nat → Int32)} {Q : Option Value → jj_Hp → Prop} {lc' : List Value} {i : Nat} {x : Int} (hd : decode M.1.2 pc = .ok (.lstore i, 2)) (hi : (i : Nat) + 1 < lc.length) (hl : jj_set2 lc i (lv x) = lc') (k : jj_Ex d M (pc + 2) lc' st (jj_h Z Y S) Q) : jj_Ex d M pc lc (lv x :: st) (jj_h Z Y S) Q := by
  subst hl
  refine Eq.mpr (jj_xs (P := (pc + 2, jj_set2 lc i (lv x), st, jj_h Z Y S)) hd rfl rfl rfl ?_) k
  exact if_pos hi
theorem xo_lstore_n {d : Nat} {M : jj_M} {pc : Nat} {lc st : List Value} {Z Y : Nat → Nat → Int} {S : Nat × (Nat → Int32)} {Q : Option Value → jj_Hp → Prop} {lc' : List Value} {i : Fin 4} {x : Int} (hd : decode M.1.2 pc = .ok (.lstore_n i, 1)) (hi : (i : Nat) + 1 < lc.length) (hl : jj_set2 lc i (lv x) = lc') (k : jj_Ex d M (pc + 1) lc' st (jj_h Z Y S) Q) : jj_Ex d M pc lc (lv x :: st) (jj_h Z Y S) Q := by
  subst hl
  refine Eq.mpr (jj_xs (P := (pc + 1, jj_set2 lc i (lv x), st, jj_h Z Y S)) hd rfl rfl rfl ?_) k
  exact if_pos hi
theorem xo_astore {d : Nat} {M : jj_M} {pc : Nat} {lc st : List Value} {Z Y : Nat → Nat → Int} {S : Nat × (Nat → Int32)} {Q : Option Value → jj_Hp → Prop} {lc' : List Value} {i : Nat} {x : Nat} (hd : decode M.1.2 pc = .ok (.astore i, 2)) (hi : (i : Nat) < lc.length) (hl : jj_set lc i (.ref x) = lc') (k : jj_Ex d M (pc + 2) lc' st (jj_h Z Y S) Q) : jj_Ex d M pc lc (.ref x :: st) (jj_h Z Y S) Q := by
  subst hl
  refine Eq.mpr (jj_xs (P := (pc + 2, jj_set lc i (.ref x), st, jj_h Z Y S)) hd rfl rfl rfl ?_) k
  exact if_pos hi
theorem xo_astore_n {d : Nat} {M : jj_M} {pc : Nat} {lc st : List Value} {Z Y : Nat → Nat → Int} {S : Nat × (Nat → Int32)} {Q : Option Value → jj_Hp → Prop} {lc' : List Value} {i : Fin 4} {x : Nat} (hd : decode M.1.2 pc = .ok (.astore_n i, 1)) (hi : (i : Nat) < lc.length) (hl : jj_set lc i (.ref x) = lc') (k : jj_Ex d M (pc + 1) lc' st (jj_h Z Y S) Q) : jj_Ex d M pc lc (.ref x :: st) (jj_h Z Y S) Q := by
  subst hl
  refine Eq.mpr (jj_xs (P := (pc + 1, jj_set lc i (.ref x), st, jj_h Z Y S)) hd rfl rfl rfl ?_) k
  exact if_pos hi
theorem xo_iinc {d : Nat} {M : jj_M} {pc : Nat} {lc st : List Value} {Z Y : Nat → Nat → Int} {S : Nat × (Nat → Int32)} {Q : Option Value → jj_Hp → Prop} {lc' : List Value} {i : Nat} {q x : Int} (hd : decode M.1.2 pc = .ok (.iinc i q, 3)) (hg : jj_gi lc i = some (Int32.ofInt x)) (hl : jj_set lc i (iv (x + q)) = lc') (k : jj_Ex d M (pc + 3) lc' st (jj_h Z Y S) Q) : jj_Ex d M pc lc st (jj_h Z Y S) Q := by
  subst hl
  rw [jj_xs (P := (pc + 3, jj_set lc i (iv (x + q)), st, jj_h Z Y S)) hd rfl rfl rfl (by show (jj_gi lc i).map _ = _; rw [hg]; show some (pc + 3, jj_set lc i (.int (Int32.ofInt x + Int32.ofInt q)), st, jj_h Z Y S) = _; rw [o_add]; rfl)]
  exact k
theorem xo_dup_i {d : Nat} {M : jj_M} {pc : Nat} {lc st : List Value} {Z Y : Nat → Nat → Int} {S : Nat × (Nat → Int32)} {Q : Option Value → jj_Hp → Prop} {x : Int} (hd : decode M.1.2 pc = .ok (.dup, 1))  (k : jj_Ex d M (pc + 1) lc (iv x :: iv x :: st) (jj_h Z Y S) Q) : jj_Ex d M pc lc (iv x :: st) (jj_h Z Y S) Q := by
  rw [jj_xs hd rfl rfl rfl rfl]
  exact k
theorem xo_dup_a {d : Nat} {M : jj_M} {pc : Nat} {lc st : List Value} {Z Y : Nat → Nat → Int} {S : Nat × (Nat → Int32)} {Q : Option Value → jj_Hp → Prop} {x : Nat} (hd : decode M.1.2 pc = .ok (.dup, 1))  (k : jj_Ex d M (pc + 1) lc (.ref x :: .ref x :: st) (jj_h Z Y S) Q) : jj_Ex d M pc lc (.ref x :: st) (jj_h Z Y S) Q := by
  rw [jj_xs hd rfl rfl rfl rfl]
  exact k
theorem xo_dup2 {d : Nat} {M : jj_M} {pc : Nat} {lc st : List Value} {Z Y : Nat → Nat → Int} {S : Nat × (Nat → Int32)} {Q : Option Value → jj_Hp → Prop} {i : Int} {a : Nat} (hd : decode M.1.2 pc = .ok (.dup2, 1))  (k : jj_Ex d M (pc + 1) lc (iv i :: .ref a :: iv i :: .ref a :: st) (jj_h Z Y S) Q) : jj_Ex d M pc lc (iv i :: .ref a :: st) (jj_h Z Y S) Q := by
  rw [jj_xs hd rfl rfl rfl rfl]
  exact k
theorem xo_iadd {d : Nat} {M : jj_M} {pc : Nat} {lc st : List Value} {Z Y : Nat → Nat → Int} {S : Nat × (Nat → Int32)} {Q : Option Value → jj_Hp → Prop} {x y : Int} (hd : decode M.1.2 pc = .ok (.iadd, 1))  (k : jj_Ex d M (pc + 1) lc (iv (x + y) :: st) (jj_h Z Y S) Q) : jj_Ex d M pc lc (iv y :: iv x :: st) (jj_h Z Y S) Q := by
  rw [jj_xs hd rfl rfl rfl rfl]
  show jj_Ex d M (pc + 1) lc (.int (Int32.ofInt x + Int32.ofInt y) :: st) (jj_h Z Y S) Q
  rw [o_add]
  exact k
theorem xo_ladd {d : Nat} {M : jj_M} {pc : Nat} {lc st : List Value} {Z Y : Nat → Nat → Int} {S : Nat × (Nat → Int32)} {Q : Option Value → jj_Hp → Prop} {x y : Int} (hd : decode M.1.2 pc = .ok (.ladd, 1))  (k : jj_Ex d M (pc + 1) lc (lv (x + y) :: st) (jj_h Z Y S) Q) : jj_Ex d M pc lc (lv y :: lv x :: st) (jj_h Z Y S) Q := by
  rw [jj_xs hd rfl rfl rfl rfl]
  show jj_Ex d M (pc + 1) lc (.long (Int64.ofInt x + Int64.ofInt y) :: st) (jj_h Z Y S) Q
  rw [q_add]
  exact k
theorem xo_isub {d : Nat} {M : jj_M} {pc : Nat} {lc st : List Value} {Z Y : Nat → Nat → Int} {S : Nat × (Nat → Int32)} {Q : Option Value → jj_Hp → Prop} {x y : Int} (hd : decode M.1.2 pc = .ok (.isub, 1))  (k : jj_Ex d M (pc + 1) lc (iv (x - y) :: st) (jj_h Z Y S) Q) : jj_Ex d M pc lc (iv y :: iv x :: st) (jj_h Z Y S) Q := by
  rw [jj_xs hd rfl rfl rfl rfl]
  show jj_Ex d M (pc + 1) lc (.int (Int32.ofInt x - Int32.ofInt y) :: st) (jj_h Z Y S) Q
  rw [o_sub]
  exact k
theorem xo_lsub {d : Nat} {M : jj_M} {pc : Nat} {lc st : List Value} {Z Y : Nat → Nat → Int} {S : Nat × (Nat → Int32)} {Q : Option Value → jj_Hp → Prop} {x y : Int} (hd : decode M.1.2 pc = .ok (.lsub, 1))  (k : jj_Ex d M (pc + 1) lc (lv (x - y) :: st) (jj_h Z Y S) Q) : jj_Ex d M pc lc (lv y :: lv x :: st) (jj_h Z Y S) Q := by
  rw [jj_xs hd rfl rfl rfl rfl]
  show jj_Ex d M (pc + 1) lc (.long (Int64.ofInt x - Int64.ofInt y) :: st) (jj_h Z Y S) Q
  rw [q_sub]
  exact k
theorem xo_imul {d : Nat} {M : jj_M} {pc : Nat} {lc st : List Value} {Z Y : Nat → Nat → Int} {S : Nat × (Nat → Int32)} {Q : Option Value → jj_Hp → Prop} {x y : Int} (hd : decode M.1.2 pc = .ok (.imul, 1))  (k : jj_Ex d M (pc + 1) lc (iv (x * y) :: st) (jj_h Z Y S) Q) : jj_Ex d M pc lc (iv y :: iv x :: st) (jj_h Z Y S) Q := by
  rw [jj_xs hd rfl rfl rfl rfl]
  show jj_Ex d M (pc + 1) lc (.int (Int32.ofInt x * Int32.ofInt y) :: st) (jj_h Z Y S) Q
  rw [o_mul]
  exact k
theorem xo_lmul {d : Nat} {M : jj_M} {pc : Nat} {lc st : List Value} {Z Y : Nat → Nat → Int} {S : Nat × (Nat → Int32)} {Q : Option Value → jj_Hp → Prop} {x y : Int} (hd : decode M.1.2 pc = .ok (.lmul, 1))  (k : jj_Ex d M (pc + 1) lc (lv (x * y) :: st) (jj_h Z Y S) Q) : jj_Ex d M pc lc (lv y :: lv x :: st) (jj_h Z Y S) Q := by
  rw [jj_xs hd rfl rfl rfl rfl]
  show jj_Ex d M (pc + 1) lc (.long (Int64.ofInt x * Int64.ofInt y) :: st) (jj_h Z Y S) Q
  rw [q_mul]
  exact k
theorem xo_ineg {d : Nat} {M : jj_M} {pc : Nat} {lc st : List Value} {Z Y : Nat → Nat → Int} {S : Nat × (Nat → Int32)} {Q : Option Value → jj_Hp → Prop} {x : Int} (hd : decode M.1.2 pc = .ok (.ineg, 1))  (k : jj_Ex d M (pc + 1) lc (iv (-x) :: st) (jj_h Z Y S) Q) : jj_Ex d M pc lc (iv x :: st) (jj_h Z Y S) Q := by
  rw [jj_xs hd rfl rfl rfl rfl]
  show jj_Ex d M (pc + 1) lc (.int (- Int32.ofInt x) :: st) (jj_h Z Y S) Q
  rw [o_neg]
  exact k
theorem xo_lneg {d : Nat} {M : jj_M} {pc : Nat} {lc st : List Value} {Z Y : Nat → Nat → Int} {S : Nat × (Nat → Int32)} {Q : Option Value → jj_Hp → Prop} {x : Int} (hd : decode M.1.2 pc = .ok (.lneg, 1))  (k : jj_Ex d M (pc + 1) lc (lv (-x) :: st) (jj_h Z Y S) Q) : jj_Ex d M pc lc (lv x :: st) (jj_h Z Y S) Q := by
  rw [jj_xs hd rfl rfl rfl rfl]
  show jj_Ex d M (pc + 1) lc (.long (- Int64.ofInt x) :: st) (jj_h Z Y S) Q
  rw [q_neg]
  exact k
theorem xo_idiv {d : Nat} {M : jj_M} {pc : Nat} {lc st : List Value} {Z Y : Nat → Nat → Int} {S : Nat × (Nat → Int32)} {Q : Option Value → jj_Hp → Prop} {x y : Int} (hd : decode M.1.2 pc = .ok (.idiv, 1)) (hx : -2147483647 ≤ x ∧ x ≤ 2147483647) (hy : -2147483648 ≤ y ∧ y ≤ 2147483647) (h0 : y ≠ 0) (k : jj_Ex d M (pc + 1) lc (iv (x.tdiv y) :: st) (jj_h Z Y S) Q) : jj_Ex d M pc lc (iv y :: iv x :: st) (jj_h Z Y S) Q := by
  have nz : ¬ Int32.ofInt y = 0 := (by intro q; exact h0 ((i_eq (y := 0) hy (by omega)).mp q))
  rw [jj_xs (P := (pc + 1, lc, iv (x.tdiv y) :: st, jj_h Z Y S)) hd rfl rfl rfl (by show (if Int32.ofInt y = 0 then none else some (pc + 1, lc, Value.int (Int32.ofInt x / Int32.ofInt y) :: st, jj_h Z Y S)) = _; rw [if_neg nz, o_div hx hy]; rfl)]
  exact k
theorem xo_irem {d : Nat} {M : jj_M} {pc : Nat} {lc st : List Value} {Z Y : Nat → Nat → Int} {S : Nat × (Nat → Int32)} {Q : Option Value → jj_Hp → Prop} {x y : Int} (hd : decode M.1.2 pc = .ok (.irem, 1)) (hx : -2147483647 ≤ x ∧ x ≤ 2147483647) (hy : -2147483648 ≤ y ∧ y ≤ 2147483647) (h0 : y ≠ 0) (k : jj_Ex d M (pc + 1) lc (iv (x.tmod y) :: st) (jj_h Z Y S) Q) : jj_Ex d M pc lc (iv y :: iv x :: st) (jj_h Z Y S) Q := by
  have nz : ¬ Int32.ofInt y = 0 := (by intro q; exact h0 ((i_eq (y := 0) hy (by omega)).mp q))
  rw [jj_xs (P := (pc + 1, lc, iv (x.tmod y) :: st, jj_h Z Y S)) hd rfl rfl rfl (by show (if Int32.ofInt y = 0 then none else some (pc + 1, lc, Value.int (Int32.ofInt x - Int32.ofInt x / Int32.ofInt y * Int32.ofInt y) :: st, jj_h Z Y S)) = _; rw [if_neg nz, o_div hx hy, o_mul, o_sub, show x - x.tdiv y * y = x.tmod y by rw [Int.tmod_def, Int.mul_comm]]; rfl)]
  exact k
theorem xo_ldiv {d : Nat} {M : jj_M} {pc : Nat} {lc st : List Value} {Z Y : Nat → Nat → Int} {S : Nat × (Nat → Int32)} {Q : Option Value → jj_Hp → Prop} {x y : Int} (hd : decode M.1.2 pc = .ok (.ldiv, 1)) (hx : -9223372036854775807 ≤ x ∧ x ≤ 9223372036854775807) (hy : -9223372036854775808 ≤ y ∧ y ≤ 9223372036854775807) (h0 : y ≠ 0) (k : jj_Ex d M (pc + 1) lc (lv (x.tdiv y) :: st) (jj_h Z Y S) Q) : jj_Ex d M pc lc (lv y :: lv x :: st) (jj_h Z Y S) Q := by
  have nz : ¬ Int64.ofInt y = 0 := (by intro q; exact h0 ((l_eq (y := 0) hy (by omega)).mp q))
  rw [jj_xs (P := (pc + 1, lc, lv (x.tdiv y) :: st, jj_h Z Y S)) hd rfl rfl rfl (by show (if Int64.ofInt y = 0 then none else some (pc + 1, lc, Value.long (Int64.ofInt x / Int64.ofInt y) :: st, jj_h Z Y S)) = _; rw [if_neg nz, q_div hx hy]; rfl)]
  exact k
theorem xo_lrem {d : Nat} {M : jj_M} {pc : Nat} {lc st : List Value} {Z Y : Nat → Nat → Int} {S : Nat × (Nat → Int32)} {Q : Option Value → jj_Hp → Prop} {x y : Int} (hd : decode M.1.2 pc = .ok (.lrem, 1)) (hx : -9223372036854775807 ≤ x ∧ x ≤ 9223372036854775807) (hy : -9223372036854775808 ≤ y ∧ y ≤ 9223372036854775807) (h0 : y ≠ 0) (k : jj_Ex d M (pc + 1) lc (lv (x.tmod y) :: st) (jj_h Z Y S) Q) : jj_Ex d M pc lc (lv y :: lv x :: st) (jj_h Z Y S) Q := by
  have nz : ¬ Int64.ofInt y = 0 := (by intro q; exact h0 ((l_eq (y := 0) hy (by omega)).mp q))
  rw [jj_xs (P := (pc + 1, lc, lv (x.tmod y) :: st, jj_h Z Y S)) hd rfl rfl rfl (by show (if Int64.ofInt y = 0 then none else some (pc + 1, lc, Value.long (Int64.ofInt x - Int64.ofInt x / Int64.ofInt y * Int64.ofInt y) :: st, jj_h Z Y S)) = _; rw [if_neg nz, q_div hx hy, q_mul, q_sub, show x - x.tdiv y * y = x.tmod y by rw [Int.tmod_def, Int.mul_comm]]; rfl)]
  exact k
theorem xo_i2l {d : Nat} {M : jj_M} {pc : Nat} {lc st : List Value} {Z Y : Nat → Nat → Int} {S : Nat × (Nat → Int32)} {Q : Option Value → jj_Hp → Prop} {x : Int} (hd : decode M.1.2 pc = .ok (.i2l, 1)) (hx : -2147483648 ≤ x ∧ x ≤ 2147483647) (k : jj_Ex d M (pc + 1) lc (lv x :: st) (jj_h Z Y S) Q) : jj_Ex d M pc lc (iv x :: st) (jj_h Z Y S) Q := by
  rw [jj_xs hd rfl rfl rfl rfl]
  show jj_Ex d M (pc + 1) lc (.long (Int32.ofInt x).toInt64 :: st) (jj_h Z Y S) Q
  rw [show (Int32.ofInt x).toInt64 = Int64.ofInt x by apply Int64.toInt_inj.mp; rw [Int32.toInt_toInt64, i_toInt hx, l_toInt (by omega)]]
  exact k
theorem xo_l2i {d : Nat} {M : jj_M} {pc : Nat} {lc st : List Value} {Z Y : Nat → Nat → Int} {S : Nat × (Nat → Int32)} {Q : Option Value → jj_Hp → Prop} {x : Int} (hd : decode M.1.2 pc = .ok (.l2i, 1))  (k : jj_Ex d M (pc + 1) lc (iv x :: st) (jj_h Z Y S) Q) : jj_Ex d M pc lc (lv x :: st) (jj_h Z Y S) Q := by
  rw [jj_xs hd rfl rfl rfl rfl]
  show jj_Ex d M (pc + 1) lc (.int (Int64.ofInt x).toInt32 :: st) (jj_h Z Y S) Q
  rw [show (Int64.ofInt x).toInt32 = Int32.ofInt x by simp]
  exact k
theorem xo_goto {d : Nat} {M : jj_M} {pc : Nat} {lc st : List Value} {Z Y : Nat → Nat → Int} {S : Nat × (Nat → Int32)} {Q : Option Value → jj_Hp → Prop} {off : Int} {t : Nat} (hd : decode M.1.2 pc = .ok (.goto off, 3)) (ht : jj_jmp pc off = some t) (k : jj_Ex d M t lc st (jj_h Z Y S) Q) : jj_Ex d M pc lc st (jj_h Z Y S) Q := by
  rw [jj_xs (P := (t, lc, st, jj_h Z Y S)) hd rfl rfl rfl (by show (jj_jmp pc off).map _ = _; rw [ht]; rfl)]
  exact k
theorem xo_icmp_eq {d : Nat} {M : jj_M} {pc : Nat} {lc st : List Value} {Z Y : Nat → Nat → Int} {S : Nat × (Nat → Int32)} {Q : Option Value → jj_Hp → Prop} {off x y : Int} {t : Nat} (hd : decode M.1.2 pc = .ok (.if_icmp .eq off, 3)) (ht : jj_jmp pc off = some t) (hx : -2147483648 ≤ x ∧ x ≤ 2147483647) (hy : -2147483648 ≤ y ∧ y ≤ 2147483647) (kt : x = y → jj_Ex d M t lc st (jj_h Z Y S) Q) (kf : ¬ (x = y) → jj_Ex d M (pc + 3) lc st (jj_h Z Y S) Q) : jj_Ex d M pc lc (iv y :: iv x :: st) (jj_h Z Y S) Q := by
  rw [jj_xs (P := (if jj_c2 .eq (Int32.ofInt x) (Int32.ofInt y) then t else pc + 3, lc, st, jj_h Z Y S)) hd rfl rfl rfl (by show (jj_jmp pc off).map _ = _; rw [ht]; rfl)]
  have e : jj_c2 .eq (Int32.ofInt x) (Int32.ofInt y) = decide (x = y) := by simp only [jj_c2, i_eq hx hy, decide_not]
  by_cases hc : x = y
  · show jj_Ex d M (if jj_c2 .eq (Int32.ofInt x) (Int32.ofInt y) = true then t else pc + 3) lc st (jj_h Z Y S) Q
    rw [if_pos (e.trans (decide_eq_true hc))]
    exact kt hc
  · show jj_Ex d M (if jj_c2 .eq (Int32.ofInt x) (Int32.ofInt y) = true then t else pc + 3) lc st (jj_h Z Y S) Q
    rw [if_neg (fun z => hc (of_decide_eq_true (e.symm.trans z)))]
    exact kf (hc)
theorem xo_if_eq {d : Nat} {M : jj_M} {pc : Nat} {lc st : List Value} {Z Y : Nat → Nat → Int} {S : Nat × (Nat → Int32)} {Q : Option Value → jj_Hp → Prop} {off x : Int} {t : Nat} (hd : decode M.1.2 pc = .ok (.ifCond .eq off, 3)) (ht : jj_jmp pc off = some t) (hx : -2147483648 ≤ x ∧ x ≤ 2147483647) (kt : x = 0 → jj_Ex d M t lc st (jj_h Z Y S) Q) (kf : ¬ (x = 0) → jj_Ex d M (pc + 3) lc st (jj_h Z Y S) Q) : jj_Ex d M pc lc (iv x :: st) (jj_h Z Y S) Q := by
  rw [jj_xs (P := (if jj_c1 .eq (Int32.ofInt x) then t else pc + 3, lc, st, jj_h Z Y S)) hd rfl rfl rfl (by show (jj_jmp pc off).map _ = _; rw [ht]; rfl)]
  have hz : -2147483648 ≤ (0 : Int) ∧ (0 : Int) ≤ 2147483647 := by omega
  have z0 : (0 : Int32) = Int32.ofInt 0 := rfl
  have e : jj_c1 .eq (Int32.ofInt x) = decide (x = 0) := by simp only [jj_c1, z0, i_eq hx hz, decide_not]
  by_cases hc : x = 0
  · show jj_Ex d M (if jj_c1 .eq (Int32.ofInt x) = true then t else pc + 3) lc st (jj_h Z Y S) Q
    rw [if_pos (e.trans (decide_eq_true hc))]
    exact kt hc
  · show jj_Ex d M (if jj_c1 .eq (Int32.ofInt x) = true then t else pc + 3) lc st (jj_h Z Y S) Q
    rw [if_neg (fun z => hc (of_decide_eq_true (e.symm.trans z)))]
    exact kf (hc)
theorem xo_lcmp_eq {d : Nat} {M : jj_M} {pc : Nat} {lc st : List Value} {Z Y : Nat → Nat → Int} {S : Nat × (Nat → Int32)} {Q : Option Value → jj_Hp → Prop} {off x y : Int} {t : Nat} (hd : decode M.1.2 pc = .ok (.lcmp, 1)) (hd2 : decode M.1.2 (pc + 1) = .ok (.ifCond .eq off, 3)) (ht : jj_jmp (pc + 1) off = some t) (hx : -9223372036854775808 ≤ x ∧ x ≤ 9223372036854775807) (hy : -9223372036854775808 ≤ y ∧ y ≤ 9223372036854775807) (kt : x = y → jj_Ex d M t lc st (jj_h Z Y S) Q) (kf : ¬ (x = y) → jj_Ex d M (pc + 4) lc st (jj_h Z Y S) Q) : jj_Ex d M pc lc (lv y :: lv x :: st) (jj_h Z Y S) Q := by
  rw [jj_xs (P := (pc + 1, lc, .int (lg_cmp (Int64.ofInt x) (Int64.ofInt y)) :: st, jj_h Z Y S)) hd rfl rfl rfl rfl]
  have e : lg_cmp (Int64.ofInt x) (Int64.ofInt y) = Int32.ofInt (if y < x then 1 else if x = y then 0 else -1) := by
    unfold lg_cmp
    simp only [gt_iff_lt, l_lt hy hx, l_eq hx hy]
    split
    · rfl
    · split <;> rfl
  simp only [e]
  refine xo_if_eq (x := if y < x then 1 else if x = y then 0 else -1) hd2 ht (by by_cases z1 : y < x <;> by_cases z2 : x = y <;> simp only [z1, z2, if_true, if_false] <;> omega) (fun z => kt ?_) (fun z => kf ?_)
  · by_cases z1 : y < x
    · rw [if_pos z1] at z; omega
    · rw [if_neg z1] at z
      by_cases z2 : x = y
      · rw [if_pos z2] at z; omega
      · rw [if_neg z2] at z; omega
  · by_cases z1 : y < x
    · rw [if_pos z1] at z; omega
    · rw [if_neg z1] at z
      by_cases z2 : x = y
      · rw [if_pos z2] at z; omega
      · rw [if_neg z2] at z; omega
theorem xo_icmp_ne {d : Nat} {M : jj_M} {pc : Nat} {lc st : List Value} {Z Y : Nat → Nat → Int} {S : Nat × (Nat → Int32)} {Q : Option Value → jj_Hp → Prop} {off x y : Int} {t : Nat} (hd : decode M.1.2 pc = .ok (.if_icmp .ne off, 3)) (ht : jj_jmp pc off = some t) (hx : -2147483648 ≤ x ∧ x ≤ 2147483647) (hy : -2147483648 ≤ y ∧ y ≤ 2147483647) (kt : ¬ x = y → jj_Ex d M t lc st (jj_h Z Y S) Q) (kf : x = y → jj_Ex d M (pc + 3) lc st (jj_h Z Y S) Q) : jj_Ex d M pc lc (iv y :: iv x :: st) (jj_h Z Y S) Q := by
  rw [jj_xs (P := (if jj_c2 .ne (Int32.ofInt x) (Int32.ofInt y) then t else pc + 3, lc, st, jj_h Z Y S)) hd rfl rfl rfl (by show (jj_jmp pc off).map _ = _; rw [ht]; rfl)]
  have e : jj_c2 .ne (Int32.ofInt x) (Int32.ofInt y) = decide (¬ x = y) := by simp only [jj_c2, i_eq hx hy, decide_not]
  by_cases hc : ¬ x = y
  · show jj_Ex d M (if jj_c2 .ne (Int32.ofInt x) (Int32.ofInt y) = true then t else pc + 3) lc st (jj_h Z Y S) Q
    rw [if_pos (e.trans (decide_eq_true hc))]
    exact kt hc
  · show jj_Ex d M (if jj_c2 .ne (Int32.ofInt x) (Int32.ofInt y) = true then t else pc + 3) lc st (jj_h Z Y S) Q
    rw [if_neg (fun z => hc (of_decide_eq_true (e.symm.trans z)))]
    exact kf (Decidable.not_not.mp hc)
theorem xo_if_ne {d : Nat} {M : jj_M} {pc : Nat} {lc st : List Value} {Z Y : Nat → Nat → Int} {S : Nat × (Nat → Int32)} {Q : Option Value → jj_Hp → Prop} {off x : Int} {t : Nat} (hd : decode M.1.2 pc = .ok (.ifCond .ne off, 3)) (ht : jj_jmp pc off = some t) (hx : -2147483648 ≤ x ∧ x ≤ 2147483647) (kt : ¬ x = 0 → jj_Ex d M t lc st (jj_h Z Y S) Q) (kf : x = 0 → jj_Ex d M (pc + 3) lc st (jj_h Z Y S) Q) : jj_Ex d M pc lc (iv x :: st) (jj_h Z Y S) Q := by
  rw [jj_xs (P := (if jj_c1 .ne (Int32.ofInt x) then t else pc + 3, lc, st, jj_h Z Y S)) hd rfl rfl rfl (by show (jj_jmp pc off).map _ = _; rw [ht]; rfl)]
  have hz : -2147483648 ≤ (0 : Int) ∧ (0 : Int) ≤ 2147483647 := by omega
  have z0 : (0 : Int32) = Int32.ofInt 0 := rfl
  have e : jj_c1 .ne (Int32.ofInt x) = decide (¬ x = 0) := by simp only [jj_c1, z0, i_eq hx hz, decide_not]
  by_cases hc : ¬ x = 0
  · show jj_Ex d M (if jj_c1 .ne (Int32.ofInt x) = true then t else pc + 3) lc st (jj_h Z Y S) Q
    rw [if_pos (e.trans (decide_eq_true hc))]
    exact kt hc
  · show jj_Ex d M (if jj_c1 .ne (Int32.ofInt x) = true then t else pc + 3) lc st (jj_h Z Y S) Q
    rw [if_neg (fun z => hc (of_decide_eq_true (e.symm.trans z)))]
    exact kf (Decidable.not_not.mp hc)
theorem xo_lcmp_ne {d : Nat} {M : jj_M} {pc : Nat} {lc st : List Value} {Z Y : Nat → Nat → Int} {S : Nat × (Nat → Int32)} {Q : Option Value → jj_Hp → Prop} {off x y : Int} {t : Nat} (hd : decode M.1.2 pc = .ok (.lcmp, 1)) (hd2 : decode M.1.2 (pc + 1) = .ok (.ifCond .ne off, 3)) (ht : jj_jmp (pc + 1) off = some t) (hx : -9223372036854775808 ≤ x ∧ x ≤ 9223372036854775807) (hy : -9223372036854775808 ≤ y ∧ y ≤ 9223372036854775807) (kt : ¬ x = y → jj_Ex d M t lc st (jj_h Z Y S) Q) (kf : x = y → jj_Ex d M (pc + 4) lc st (jj_h Z Y S) Q) : jj_Ex d M pc lc (lv y :: lv x :: st) (jj_h Z Y S) Q := by
  rw [jj_xs (P := (pc + 1, lc, .int (lg_cmp (Int64.ofInt x) (Int64.ofInt y)) :: st, jj_h Z Y S)) hd rfl rfl rfl rfl]
  have e : lg_cmp (Int64.ofInt x) (Int64.ofInt y) = Int32.ofInt (if y < x then 1 else if x = y then 0 else -1) := by
    unfold lg_cmp
    simp only [gt_iff_lt, l_lt hy hx, l_eq hx hy]
    split
    · rfl
    · split <;> rfl
  simp only [e]
  refine xo_if_ne (x := if y < x then 1 else if x = y then 0 else -1) hd2 ht (by by_cases z1 : y < x <;> by_cases z2 : x = y <;> simp only [z1, z2, if_true, if_false] <;> omega) (fun z => kt ?_) (fun z => kf ?_)
  · by_cases z1 : y < x
    · rw [if_pos z1] at z; omega
    · rw [if_neg z1] at z
      by_cases z2 : x = y
      · rw [if_pos z2] at z; omega
      · rw [if_neg z2] at z; omega
  · by_cases z1 : y < x
    · rw [if_pos z1] at z; omega
    · rw [if_neg z1] at z
      by_cases z2 : x = y
      · rw [if_pos z2] at z; omega
      · rw [if_neg z2] at z; omega
theorem xo_icmp_lt {d : Nat} {M : jj_M} {pc : Nat} {lc st : List Value} {Z Y : Nat → Nat → Int} {S : Nat × (Nat → Int32)} {Q : Option Value → jj_Hp → Prop} {off x y : Int} {t : Nat} (hd : decode M.1.2 pc = .ok (.if_icmp .lt off, 3)) (ht : jj_jmp pc off = some t) (hx : -2147483648 ≤ x ∧ x ≤ 2147483647) (hy : -2147483648 ≤ y ∧ y ≤ 2147483647) (kt : x < y → jj_Ex d M t lc st (jj_h Z Y S) Q) (kf : ¬ (x < y) → jj_Ex d M (pc + 3) lc st (jj_h Z Y S) Q) : jj_Ex d M pc lc (iv y :: iv x :: st) (jj_h Z Y S) Q := by
  rw [jj_xs (P := (if jj_c2 .lt (Int32.ofInt x) (Int32.ofInt y) then t else pc + 3, lc, st, jj_h Z Y S)) hd rfl rfl rfl (by show (jj_jmp pc off).map _ = _; rw [ht]; rfl)]
  have e : jj_c2 .lt (Int32.ofInt x) (Int32.ofInt y) = decide (x < y) := by simp only [jj_c2, i_lt hx hy, decide_not]
  by_cases hc : x < y
  · show jj_Ex d M (if jj_c2 .lt (Int32.ofInt x) (Int32.ofInt y) = true then t else pc + 3) lc st (jj_h Z Y S) Q
    rw [if_pos (e.trans (decide_eq_true hc))]
    exact kt hc
  · show jj_Ex d M (if jj_c2 .lt (Int32.ofInt x) (Int32.ofInt y) = true then t else pc + 3) lc st (jj_h Z Y S) Q
    rw [if_neg (fun z => hc (of_decide_eq_true (e.symm.trans z)))]
    exact kf (hc)
theorem xo_if_lt {d : Nat} {M : jj_M} {pc : Nat} {lc st : List Value} {Z Y : Nat → Nat → Int} {S : Nat × (Nat → Int32)} {Q : Option Value → jj_Hp → Prop} {off x : Int} {t : Nat} (hd : decode M.1.2 pc = .ok (.ifCond .lt off, 3)) (ht : jj_jmp pc off = some t) (hx : -2147483648 ≤ x ∧ x ≤ 2147483647) (kt : x < 0 → jj_Ex d M t lc st (jj_h Z Y S) Q) (kf : ¬ (x < 0) → jj_Ex d M (pc + 3) lc st (jj_h Z Y S) Q) : jj_Ex d M pc lc (iv x :: st) (jj_h Z Y S) Q := by
  rw [jj_xs (P := (if jj_c1 .lt (Int32.ofInt x) then t else pc + 3, lc, st, jj_h Z Y S)) hd rfl rfl rfl (by show (jj_jmp pc off).map _ = _; rw [ht]; rfl)]
  have hz : -2147483648 ≤ (0 : Int) ∧ (0 : Int) ≤ 2147483647 := by omega
  have z0 : (0 : Int32) = Int32.ofInt 0 := rfl
  have e : jj_c1 .lt (Int32.ofInt x) = decide (x < 0) := by simp only [jj_c1, z0, i_lt hx hz, decide_not]
  by_cases hc : x < 0
  · show jj_Ex d M (if jj_c1 .lt (Int32.ofInt x) = true then t else pc + 3) lc st (jj_h Z Y S) Q
    rw [if_pos (e.trans (decide_eq_true hc))]
    exact kt hc
  · show jj_Ex d M (if jj_c1 .lt (Int32.ofInt x) = true then t else pc + 3) lc st (jj_h Z Y S) Q
    rw [if_neg (fun z => hc (of_decide_eq_true (e.symm.trans z)))]
    exact kf (hc)
theorem xo_lcmp_lt {d : Nat} {M : jj_M} {pc : Nat} {lc st : List Value} {Z Y : Nat → Nat → Int} {S : Nat × (Nat → Int32)} {Q : Option Value → jj_Hp → Prop} {off x y : Int} {t : Nat} (hd : decode M.1.2 pc = .ok (.lcmp, 1)) (hd2 : decode M.1.2 (pc + 1) = .ok (.ifCond .lt off, 3)) (ht : jj_jmp (pc + 1) off = some t) (hx : -9223372036854775808 ≤ x ∧ x ≤ 9223372036854775807) (hy : -9223372036854775808 ≤ y ∧ y ≤ 9223372036854775807) (kt : x < y → jj_Ex d M t lc st (jj_h Z Y S) Q) (kf : ¬ (x < y) → jj_Ex d M (pc + 4) lc st (jj_h Z Y S) Q) : jj_Ex d M pc lc (lv y :: lv x :: st) (jj_h Z Y S) Q := by
  rw [jj_xs (P := (pc + 1, lc, .int (lg_cmp (Int64.ofInt x) (Int64.ofInt y)) :: st, jj_h Z Y S)) hd rfl rfl rfl rfl]
  have e : lg_cmp (Int64.ofInt x) (Int64.ofInt y) = Int32.ofInt (if y < x then 1 else if x = y then 0 else -1) := by
    unfold lg_cmp
    simp only [gt_iff_lt, l_lt hy hx, l_eq hx hy]
    split
    · rfl
    · split <;> rfl
  simp only [e]
  refine xo_if_lt (x := if y < x then 1 else if x = y then 0 else -1) hd2 ht (by by_cases z1 : y < x <;> by_cases z2 : x = y <;> simp only [z1, z2, if_true, if_false] <;> omega) (fun z => kt ?_) (fun z => kf ?_)
  · by_cases z1 : y < x
    · rw [if_pos z1] at z; omega
    · rw [if_neg z1] at z
      by_cases z2 : x = y
      · rw [if_pos z2] at z; omega
      · rw [if_neg z2] at z; omega
  · by_cases z1 : y < x
    · rw [if_pos z1] at z; omega
    · rw [if_neg z1] at z
      by_cases z2 : x = y
      · rw [if_pos z2] at z; omega
      · rw [if_neg z2] at z; omega
theorem xo_icmp_ge {d : Nat} {M : jj_M} {pc : Nat} {lc st : List Value} {Z Y : Nat → Nat → Int} {S : Nat × (Nat → Int32)} {Q : Option Value → jj_Hp → Prop} {off x y : Int} {t : Nat} (hd : decode M.1.2 pc = .ok (.if_icmp .ge off, 3)) (ht : jj_jmp pc off = some t) (hx : -2147483648 ≤ x ∧ x ≤ 2147483647) (hy : -2147483648 ≤ y ∧ y ≤ 2147483647) (kt : y ≤ x → jj_Ex d M t lc st (jj_h Z Y S) Q) (kf : ¬ (y ≤ x) → jj_Ex d M (pc + 3) lc st (jj_h Z Y S) Q) : jj_Ex d M pc lc (iv y :: iv x :: st) (jj_h Z Y S) Q := by
  rw [jj_xs (P := (if jj_c2 .ge (Int32.ofInt x) (Int32.ofInt y) then t else pc + 3, lc, st, jj_h Z Y S)) hd rfl rfl rfl (by show (jj_jmp pc off).map _ = _; rw [ht]; rfl)]
  have e : jj_c2 .ge (Int32.ofInt x) (Int32.ofInt y) = decide (y ≤ x) := by simp only [jj_c2, i_le hy hx, decide_not]
  by_cases hc : y ≤ x
  · show jj_Ex d M (if jj_c2 .ge (Int32.ofInt x) (Int32.ofInt y) = true then t else pc + 3) lc st (jj_h Z Y S) Q
    rw [if_pos (e.trans (decide_eq_true hc))]
    exact kt hc
  · show jj_Ex d M (if jj_c2 .ge (Int32.ofInt x) (Int32.ofInt y) = true then t else pc + 3) lc st (jj_h Z Y S) Q
    rw [if_neg (fun z => hc (of_decide_eq_true (e.symm.trans z)))]
    exact kf (hc)
theorem xo_if_ge {d : Nat} {M : jj_M} {pc : Nat} {lc st : List Value} {Z Y : Nat → Nat → Int} {S : Nat × (Nat → Int32)} {Q : Option Value → jj_Hp → Prop} {off x : Int} {t : Nat} (hd : decode M.1.2 pc = .ok (.ifCond .ge off, 3)) (ht : jj_jmp pc off = some t) (hx : -2147483648 ≤ x ∧ x ≤ 2147483647) (kt : 0 ≤ x → jj_Ex d M t lc st (jj_h Z Y S) Q) (kf : ¬ (0 ≤ x) → jj_Ex d M (pc + 3) lc st (jj_h Z Y S) Q) : jj_Ex d M pc lc (iv x :: st) (jj_h Z Y S) Q := by
  rw [jj_xs (P := (if jj_c1 .ge (Int32.ofInt x) then t else pc + 3, lc, st, jj_h Z Y S)) hd rfl rfl rfl (by show (jj_jmp pc off).map _ = _; rw [ht]; rfl)]
  have hz : -2147483648 ≤ (0 : Int) ∧ (0 : Int) ≤ 2147483647 := by omega
  have z0 : (0 : Int32) = Int32.ofInt 0 := rfl
  have e : jj_c1 .ge (Int32.ofInt x) = decide (0 ≤ x) := by simp only [jj_c1, z0, i_le hz hx, decide_not]
  by_cases hc : 0 ≤ x
  · show jj_Ex d M (if jj_c1 .ge (Int32.ofInt x) = true then t else pc + 3) lc st (jj_h Z Y S) Q
    rw [if_pos (e.trans (decide_eq_true hc))]
    exact kt hc
  · show jj_Ex d M (if jj_c1 .ge (Int32.ofInt x) = true then t else pc + 3) lc st (jj_h Z Y S) Q
    rw [if_neg (fun z => hc (of_decide_eq_true (e.symm.trans z)))]
    exact kf (hc)
theorem xo_lcmp_ge {d : Nat} {M : jj_M} {pc : Nat} {lc st : List Value} {Z Y : Nat → Nat → Int} {S : Nat × (Nat → Int32)} {Q : Option Value → jj_Hp → Prop} {off x y : Int} {t : Nat} (hd : decode M.1.2 pc = .ok (.lcmp, 1)) (hd2 : decode M.1.2 (pc + 1) = .ok (.ifCond .ge off, 3)) (ht : jj_jmp (pc + 1) off = some t) (hx : -9223372036854775808 ≤ x ∧ x ≤ 9223372036854775807) (hy : -9223372036854775808 ≤ y ∧ y ≤ 9223372036854775807) (kt : y ≤ x → jj_Ex d M t lc st (jj_h Z Y S) Q) (kf : ¬ (y ≤ x) → jj_Ex d M (pc + 4) lc st (jj_h Z Y S) Q) : jj_Ex d M pc lc (lv y :: lv x :: st) (jj_h Z Y S) Q := by
  rw [jj_xs (P := (pc + 1, lc, .int (lg_cmp (Int64.ofInt x) (Int64.ofInt y)) :: st, jj_h Z Y S)) hd rfl rfl rfl rfl]
  have e : lg_cmp (Int64.ofInt x) (Int64.ofInt y) = Int32.ofInt (if y < x then 1 else if x = y then 0 else -1) := by
    unfold lg_cmp
    simp only [gt_iff_lt, l_lt hy hx, l_eq hx hy]
    split
    · rfl
    · split <;> rfl
  simp only [e]
  refine xo_if_ge (x := if y < x then 1 else if x = y then 0 else -1) hd2 ht (by by_cases z1 : y < x <;> by_cases z2 : x = y <;> simp only [z1, z2, if_true, if_false] <;> omega) (fun z => kt ?_) (fun z => kf ?_)
  · by_cases z1 : y < x
    · rw [if_pos z1] at z; omega
    · rw [if_neg z1] at z
      by_cases z2 : x = y
      · rw [if_pos z2] at z; omega
      · rw [if_neg z2] at z; omega
  · by_cases z1 : y < x
    · rw [if_pos z1] at z; omega
    · rw [if_neg z1] at z
      by_cases z2 : x = y
      · rw [if_pos z2] at z; omega
      · rw [if_neg z2] at z; omega
theorem xo_icmp_gt {d : Nat} {M : jj_M} {pc : Nat} {lc st : List Value} {Z Y : Nat → Nat → Int} {S : Nat × (Nat → Int32)} {Q : Option Value → jj_Hp → Prop} {off x y : Int} {t : Nat} (hd : decode M.1.2 pc = .ok (.if_icmp .gt off, 3)) (ht : jj_jmp pc off = some t) (hx : -2147483648 ≤ x ∧ x ≤ 2147483647) (hy : -2147483648 ≤ y ∧ y ≤ 2147483647) (kt : y < x → jj_Ex d M t lc st (jj_h Z Y S) Q) (kf : ¬ (y < x) → jj_Ex d M (pc + 3) lc st (jj_h Z Y S) Q) : jj_Ex d M pc lc (iv y :: iv x :: st) (jj_h Z Y S) Q := by
  rw [jj_xs (P := (if jj_c2 .gt (Int32.ofInt x) (Int32.ofInt y) then t else pc + 3, lc, st, jj_h Z Y S)) hd rfl rfl rfl (by show (jj_jmp pc off).map _ = _; rw [ht]; rfl)]
  have e : jj_c2 .gt (Int32.ofInt x) (Int32.ofInt y) = decide (y < x) := by simp only [jj_c2, i_lt hy hx, decide_not]
  by_cases hc : y < x
  · show jj_Ex d M (if jj_c2 .gt (Int32.ofInt x) (Int32.ofInt y) = true then t else pc + 3) lc st (jj_h Z Y S) Q
    rw [if_pos (e.trans (decide_eq_true hc))]
    exact kt hc
  · show jj_Ex d M (if jj_c2 .gt (Int32.ofInt x) (Int32.ofInt y) = true then t else pc + 3) lc st (jj_h Z Y S) Q
    rw [if_neg (fun z => hc (of_decide_eq_true (e.symm.trans z)))]
    exact kf (hc)
theorem xo_if_gt {d : Nat} {M : jj_M} {pc : Nat} {lc st : List Value} {Z Y : Nat → Nat → Int} {S : Nat × (Nat → Int32)} {Q : Option Value → jj_Hp → Prop} {off x : Int} {t : Nat} (hd : decode M.1.2 pc = .ok (.ifCond .gt off, 3)) (ht : jj_jmp pc off = some t) (hx : -2147483648 ≤ x ∧ x ≤ 2147483647) (kt : 0 < x → jj_Ex d M t lc st (jj_h Z Y S) Q) (kf : ¬ (0 < x) → jj_Ex d M (pc + 3) lc st (jj_h Z Y S) Q) : jj_Ex d M pc lc (iv x :: st) (jj_h Z Y S) Q := by
  rw [jj_xs (P := (if jj_c1 .gt (Int32.ofInt x) then t else pc + 3, lc, st, jj_h Z Y S)) hd rfl rfl rfl (by show (jj_jmp pc off).map _ = _; rw [ht]; rfl)]
  have hz : -2147483648 ≤ (0 : Int) ∧ (0 : Int) ≤ 2147483647 := by omega
  have z0 : (0 : Int32) = Int32.ofInt 0 := rfl
  have e : jj_c1 .gt (Int32.ofInt x) = decide (0 < x) := by simp only [jj_c1, z0, i_lt hz hx, decide_not]
  by_cases hc : 0 < x
  · show jj_Ex d M (if jj_c1 .gt (Int32.ofInt x) = true then t else pc + 3) lc st (jj_h Z Y S) Q
    rw [if_pos (e.trans (decide_eq_true hc))]
    exact kt hc
  · show jj_Ex d M (if jj_c1 .gt (Int32.ofInt x) = true then t else pc + 3) lc st (jj_h Z Y S) Q
    rw [if_neg (fun z => hc (of_decide_eq_true (e.symm.trans z)))]
    exact kf (hc)
theorem xo_lcmp_gt {d : Nat} {M : jj_M} {pc : Nat} {lc st : List Value} {Z Y : Nat → Nat → Int} {S : Nat × (Nat → Int32)} {Q : Option Value → jj_Hp → Prop} {off x y : Int} {t : Nat} (hd : decode M.1.2 pc = .ok (.lcmp, 1)) (hd2 : decode M.1.2 (pc + 1) = .ok (.ifCond .gt off, 3)) (ht : jj_jmp (pc + 1) off = some t) (hx : -9223372036854775808 ≤ x ∧ x ≤ 9223372036854775807) (hy : -9223372036854775808 ≤ y ∧ y ≤ 9223372036854775807) (kt : y < x → jj_Ex d M t lc st (jj_h Z Y S) Q) (kf : ¬ (y < x) → jj_Ex d M (pc + 4) lc st (jj_h Z Y S) Q) : jj_Ex d M pc lc (lv y :: lv x :: st) (jj_h Z Y S) Q := by
  rw [jj_xs (P := (pc + 1, lc, .int (lg_cmp (Int64.ofInt x) (Int64.ofInt y)) :: st, jj_h Z Y S)) hd rfl rfl rfl rfl]
  have e : lg_cmp (Int64.ofInt x) (Int64.ofInt y) = Int32.ofInt (if y < x then 1 else if x = y then 0 else -1) := by
    unfold lg_cmp
    simp only [gt_iff_lt, l_lt hy hx, l_eq hx hy]
    split
    · rfl
    · split <;> rfl
  simp only [e]
  refine xo_if_gt (x := if y < x then 1 else if x = y then 0 else -1) hd2 ht (by by_cases z1 : y < x <;> by_cases z2 : x = y <;> simp only [z1, z2, if_true, if_false] <;> omega) (fun z => kt ?_) (fun z => kf ?_)
  · by_cases z1 : y < x
    · rw [if_pos z1] at z; omega
    · rw [if_neg z1] at z
      by_cases z2 : x = y
      · rw [if_pos z2] at z; omega
      · rw [if_neg z2] at z; omega
  · by_cases z1 : y < x
    · rw [if_pos z1] at z; omega
    · rw [if_neg z1] at z
      by_cases z2 : x = y
      · rw [if_pos z2] at z; omega
      · rw [if_neg z2] at z; omega
theorem xo_icmp_le {d : Nat} {M : jj_M} {pc : Nat} {lc st : List Value} {Z Y : Nat → Nat → Int} {S : Nat × (Nat → Int32)} {Q : Option Value → jj_Hp → Prop} {off x y : Int} {t : Nat} (hd : decode M.1.2 pc = .ok (.if_icmp .le off, 3)) (ht : jj_jmp pc off = some t) (hx : -2147483648 ≤ x ∧ x ≤ 2147483647) (hy : -2147483648 ≤ y ∧ y ≤ 2147483647) (kt : x ≤ y → jj_Ex d M t lc st (jj_h Z Y S) Q) (kf : ¬ (x ≤ y) → jj_Ex d M (pc + 3) lc st (jj_h Z Y S) Q) : jj_Ex d M pc lc (iv y :: iv x :: st) (jj_h Z Y S) Q := by
  rw [jj_xs (P := (if jj_c2 .le (Int32.ofInt x) (Int32.ofInt y) then t else pc + 3, lc, st, jj_h Z Y S)) hd rfl rfl rfl (by show (jj_jmp pc off).map _ = _; rw [ht]; rfl)]
  have e : jj_c2 .le (Int32.ofInt x) (Int32.ofInt y) = decide (x ≤ y) := by simp only [jj_c2, i_le hx hy, decide_not]
  by_cases hc : x ≤ y
  · show jj_Ex d M (if jj_c2 .le (Int32.ofInt x) (Int32.ofInt y) = true then t else pc + 3) lc st (jj_h Z Y S) Q
    rw [if_pos (e.trans (decide_eq_true hc))]
    exact kt hc
  · show jj_Ex d M (if jj_c2 .le (Int32.ofInt x) (Int32.ofInt y) = true then t else pc + 3) lc st (jj_h Z Y S) Q
    rw [if_neg (fun z => hc (of_decide_eq_true (e.symm.trans z)))]
    exact kf (hc)
theorem xo_if_le {d : Nat} {M : jj_M} {pc : Nat} {lc st : List Value} {Z Y : Nat → Nat → Int} {S : Nat × (Nat → Int32)} {Q : Option Value → jj_Hp → Prop} {off x : Int} {t : Nat} (hd : decode M.1.2 pc = .ok (.ifCond .le off, 3)) (ht : jj_jmp pc off = some t) (hx : -2147483648 ≤ x ∧ x ≤ 2147483647) (kt : x ≤ 0 → jj_Ex d M t lc st (jj_h Z Y S) Q) (kf : ¬ (x ≤ 0) → jj_Ex d M (pc + 3) lc st (jj_h Z Y S) Q) : jj_Ex d M pc lc (iv x :: st) (jj_h Z Y S) Q := by
  rw [jj_xs (P := (if jj_c1 .le (Int32.ofInt x) then t else pc + 3, lc, st, jj_h Z Y S)) hd rfl rfl rfl (by show (jj_jmp pc off).map _ = _; rw [ht]; rfl)]
  have hz : -2147483648 ≤ (0 : Int) ∧ (0 : Int) ≤ 2147483647 := by omega
  have z0 : (0 : Int32) = Int32.ofInt 0 := rfl
  have e : jj_c1 .le (Int32.ofInt x) = decide (x ≤ 0) := by simp only [jj_c1, z0, i_le hx hz, decide_not]
  by_cases hc : x ≤ 0
  · show jj_Ex d M (if jj_c1 .le (Int32.ofInt x) = true then t else pc + 3) lc st (jj_h Z Y S) Q
    rw [if_pos (e.trans (decide_eq_true hc))]
    exact kt hc
  · show jj_Ex d M (if jj_c1 .le (Int32.ofInt x) = true then t else pc + 3) lc st (jj_h Z Y S) Q
    rw [if_neg (fun z => hc (of_decide_eq_true (e.symm.trans z)))]
    exact kf (hc)
theorem xo_lcmp_le {d : Nat} {M : jj_M} {pc : Nat} {lc st : List Value} {Z Y : Nat → Nat → Int} {S : Nat × (Nat → Int32)} {Q : Option Value → jj_Hp → Prop} {off x y : Int} {t : Nat} (hd : decode M.1.2 pc = .ok (.lcmp, 1)) (hd2 : decode M.1.2 (pc + 1) = .ok (.ifCond .le off, 3)) (ht : jj_jmp (pc + 1) off = some t) (hx : -9223372036854775808 ≤ x ∧ x ≤ 9223372036854775807) (hy : -9223372036854775808 ≤ y ∧ y ≤ 9223372036854775807) (kt : x ≤ y → jj_Ex d M t lc st (jj_h Z Y S) Q) (kf : ¬ (x ≤ y) → jj_Ex d M (pc + 4) lc st (jj_h Z Y S) Q) : jj_Ex d M pc lc (lv y :: lv x :: st) (jj_h Z Y S) Q := by
  rw [jj_xs (P := (pc + 1, lc, .int (lg_cmp (Int64.ofInt x) (Int64.ofInt y)) :: st, jj_h Z Y S)) hd rfl rfl rfl rfl]
  have e : lg_cmp (Int64.ofInt x) (Int64.ofInt y) = Int32.ofInt (if y < x then 1 else if x = y then 0 else -1) := by
    unfold lg_cmp
    simp only [gt_iff_lt, l_lt hy hx, l_eq hx hy]
    split
    · rfl
    · split <;> rfl
  simp only [e]
  refine xo_if_le (x := if y < x then 1 else if x = y then 0 else -1) hd2 ht (by by_cases z1 : y < x <;> by_cases z2 : x = y <;> simp only [z1, z2, if_true, if_false] <;> omega) (fun z => kt ?_) (fun z => kf ?_)
  · by_cases z1 : y < x
    · rw [if_pos z1] at z; omega
    · rw [if_neg z1] at z
      by_cases z2 : x = y
      · rw [if_pos z2] at z; omega
      · rw [if_neg z2] at z; omega
  · by_cases z1 : y < x
    · rw [if_pos z1] at z; omega
    · rw [if_neg z1] at z
      by_cases z2 : x = y
      · rw [if_pos z2] at z; omega
      · rw [if_neg z2] at z; omega
theorem xo_gf {d : Nat} {M : jj_M} {pc : Nat} {lc st : List Value} {Z Y : Nat → Nat → Int} {S : Nat × (Nat → Int32)} {Q : Option Value → jj_Hp → Prop} {v : Value} {i a ci kf : Nat} (hd : decode M.1.2 pc = .ok (.getfield i, 3)) (hf : jj_fld M.2.2.2.1 i = some (ci, kf)) (hs : jj_sh[a]? = some (.inl ci)) (hk : kf < jj_nf ci) (hv : jj_gf (jj_h Z Y S) a ci kf = v) (k : jj_Ex d M (pc + 3) lc (v :: st) (jj_h Z Y S) Q) : jj_Ex d M pc lc (.ref a :: st) (jj_h Z Y S) Q := by
  subst hv
  rw [jj_xs (P := (pc + 3, lc, jj_gf (jj_h Z Y S) a ci kf :: st, jj_h Z Y S)) hd rfl rfl rfl (by show (jj_fld M.2.2.2.1 i).bind _ = _; rw [hf]; exact if_pos ⟨hs, hk⟩)]
  exact k
theorem xo_pfi {d : Nat} {M : jj_M} {pc : Nat} {lc st : List Value} {Z Y : Nat → Nat → Int} {S : Nat × (Nat → Int32)} {Q : Option Value → jj_Hp → Prop} {v : Int} {i a ci kf : Nat} (hd : decode M.1.2 pc = .ok (.putfield i, 3)) (hf : jj_fld M.2.2.2.1 i = some (ci, kf)) (hs : jj_sh[a]? = some (.inl ci)) (hk : kf < jj_nf ci) (ht : jj_fty ci kf = .int) (k : jj_Ex d M (pc + 3) lc st (jj_h (zu Z a kf v) Y S) Q) : jj_Ex d M pc lc (iv v :: .ref a :: st) (jj_h Z Y S) Q := by
  rw [jj_xs (P := (pc + 3, lc, st, jj_h (zu Z a kf v) Y S)) hd rfl rfl rfl (by show (jj_fld M.2.2.2.1 i).bind _ = _; rw [hf, ← iu_h]; dsimp only [Option.bind]; rw [ht]; exact if_pos ⟨hs, hk⟩)]
  exact k
theorem xo_pfz {d : Nat} {M : jj_M} {pc : Nat} {lc st : List Value} {Z Y : Nat → Nat → Int} {S : Nat × (Nat → Int32)} {Q : Option Value → jj_Hp → Prop} {v : Int} {i a ci kf : Nat} (hd : decode M.1.2 pc = .ok (.putfield i, 3)) (hf : jj_fld M.2.2.2.1 i = some (ci, kf)) (hs : jj_sh[a]? = some (.inl ci)) (hk : kf < jj_nf ci) (ht : jj_fty ci kf = .boolean) (h01 : v = 0 ∨ v = 1) (k : jj_Ex d M (pc + 3) lc st (jj_h (zu Z a kf v) Y S) Q) : jj_Ex d M pc lc (iv v :: .ref a :: st) (jj_h Z Y S) Q := by
  rw [jj_xs (P := (pc + 3, lc, st, jj_h (zu Z a kf v) Y S)) hd rfl rfl rfl (by show (jj_fld M.2.2.2.1 i).bind _ = _; rw [hf, ← iu_h]; dsimp only [Option.bind]; rw [ht]; exact if_pos ⟨hs, hk, by rcases h01 with rfl | rfl <;> rfl⟩)]
  exact k
theorem xo_pfl {d : Nat} {M : jj_M} {pc : Nat} {lc st : List Value} {Z Y : Nat → Nat → Int} {S : Nat × (Nat → Int32)} {Q : Option Value → jj_Hp → Prop} {v : Int} {i a ci kf : Nat} (hd : decode M.1.2 pc = .ok (.putfield i, 3)) (hf : jj_fld M.2.2.2.1 i = some (ci, kf)) (hs : jj_sh[a]? = some (.inl ci)) (hk : kf < jj_nf ci) (ht : jj_fty ci kf = .long) (k : jj_Ex d M (pc + 3) lc st (jj_h Z (zu Y a kf v) S) Q) : jj_Ex d M pc lc (lv v :: .ref a :: st) (jj_h Z Y S) Q := by
  rw [jj_xs (P := (pc + 3, lc, st, jj_h Z (zu Y a kf v) S)) hd rfl rfl rfl (by show (jj_fld M.2.2.2.1 i).bind _ = _; rw [hf, ← lu_h]; dsimp only [Option.bind]; rw [ht]; exact if_pos ⟨hs, hk⟩)]
  exact k
def jj_il (a : Nat) : Nat := match jj_sh[a]? with
  | some (.inr (.int, n)) => n
  | _ => 0
theorem jj_il_sh {a : Nat} (h : 0 < jj_il a) : jj_sh[a]? = some (.inr (.int, jj_il a)) ∧ a ≠ jj_sc ∧ jj_il a ≤ 2000 := by
  have h1 : jj_sh[a]? = some (.inr (.int, jj_il a)) := by
    unfold jj_il at h ⊢
    split at h
    · next n hn => rw [hn]
    · omega
  have ha : a < 46 := jj_sh_lt h1
  refine ⟨h1, by show a ≠ 1000; omega, ?_⟩
  revert h1 h
  have : ∀ a, a < 46 → jj_il a ≤ 2000 := by decide
  intro _ _
  exact this a ha
theorem xo_iald {d : Nat} {M : jj_M} {pc : Nat} {lc st : List Value} {Z Y : Nat → Nat → Int} {S : Nat × (Nat → Int32)} {Q : Option Value → jj_Hp → Prop} {i : Int} {a : Nat} (hd : decode M.1.2 pc = .ok (.iaload, 1)) (h0 : 0 ≤ i) (h1 : i < (jj_il a : Nat)) (k : jj_Ex d M (pc + 1) lc (iv (Z a i.toNat) :: st) (jj_h Z Y S) Q) : jj_Ex d M pc lc (iv i :: .ref a :: st) (jj_h Z Y S) Q := by
  obtain ⟨hs, hn, hb⟩ := jj_il_sh (a := a) (by omega)
  rw [jj_xs (P := (pc + 1, lc, iv (Z a i.toNat) :: st, jj_h Z Y S)) hd rfl rfl rfl (by
    show (if a = jj_sc then _ else (match jj_sh[a]? with
      | some (.inr (.int, n)) => if jj_inb (Int32.ofInt i) n then some (pc + 1, lc, Value.int ((jj_h Z Y S).1 a (Int32.ofInt i).toNatClampNeg) :: st, jj_h Z Y S) else none
      | _ => none)) = _
    rw [if_neg hn, hs, i_clamp (by omega)]
    exact if_pos (i_inb h0 h1 (by omega)))]
  exact k
theorem xo_iast {d : Nat} {M : jj_M} {pc : Nat} {lc st : List Value} {Z Y : Nat → Nat → Int} {S : Nat × (Nat → Int32)} {Q : Option Value → jj_Hp → Prop} {i v : Int} {a : Nat} (hd : decode M.1.2 pc = .ok (.iastore, 1)) (h0 : 0 ≤ i) (h1 : i < (jj_il a : Nat)) (k : jj_Ex d M (pc + 1) lc st (jj_h (zu Z a i.toNat v) Y S) Q) : jj_Ex d M pc lc (iv v :: iv i :: .ref a :: st) (jj_h Z Y S) Q := by
  obtain ⟨hs, hn, hb⟩ := jj_il_sh (a := a) (by omega)
  rw [jj_xs (P := (pc + 1, lc, st, jj_h (zu Z a i.toNat v) Y S)) hd rfl rfl rfl (by
    show (match jj_sh[a]? with
      | some (.inr (.int, n)) => if jj_inb (Int32.ofInt i) n then some (pc + 1, lc, st, jj_iu (jj_h Z Y S) a (Int32.ofInt i).toNatClampNeg (Int32.ofInt v)) else none
      | _ => none) = _
    rw [hs, i_clamp (by omega), iu_h]
    exact if_pos (i_inb h0 h1 (by omega)))]
  exact k
theorem xo_zald {d : Nat} {M : jj_M} {pc : Nat} {lc st : List Value} {Z Y : Nat → Nat → Int} {S : Nat × (Nat → Int32)} {Q : Option Value → jj_Hp → Prop} {i v : Int} {a n : Nat} (hd : decode M.1.2 pc = .ok (.baload, 1)) (hs : jj_sh[a]? = some (.inr (.boolean, n))) (hn : n ≤ 2000) (h0 : 0 ≤ i) (h1 : i < n) (k : jj_Ex d M (pc + 1) lc (iv (Z a i.toNat) :: st) (jj_h Z Y S) Q) : jj_Ex d M pc lc (iv i :: .ref a :: st) (jj_h Z Y S) Q := by
  rw [jj_xs (P := (pc + 1, lc, iv (Z a i.toNat) :: st, jj_h Z Y S)) hd rfl rfl rfl (by
    show (match jj_sh[a]? with
      | some (.inr (.boolean, n)) => if jj_inb (Int32.ofInt i) n then some (pc + 1, lc, Value.int ((jj_h Z Y S).1 a (Int32.ofInt i).toNatClampNeg) :: st, jj_h Z Y S) else none
      | _ => none) = _
    rw [hs, i_clamp (by omega)]
    exact if_pos (i_inb h0 h1 (by omega)))]
  exact k
theorem xo_lald {d : Nat} {M : jj_M} {pc : Nat} {lc st : List Value} {Z Y : Nat → Nat → Int} {S : Nat × (Nat → Int32)} {Q : Option Value → jj_Hp → Prop} {i v : Int} {a n : Nat} (hd : decode M.1.2 pc = .ok (.laload, 1)) (hs : jj_sh[a]? = some (.inr (.long, n))) (hn : n ≤ 2000) (h0 : 0 ≤ i) (h1 : i < n) (k : jj_Ex d M (pc + 1) lc (lv (Y a i.toNat) :: st) (jj_h Z Y S) Q) : jj_Ex d M pc lc (iv i :: .ref a :: st) (jj_h Z Y S) Q := by
  rw [jj_xs (P := (pc + 1, lc, lv (Y a i.toNat) :: st, jj_h Z Y S)) hd rfl rfl rfl (by
    show (match jj_sh[a]? with
      | some (.inr (.long, n)) => if jj_inb (Int32.ofInt i) n then some (pc + 1, lc, Value.long ((jj_h Z Y S).2.1 a (Int32.ofInt i).toNatClampNeg) :: st, jj_h Z Y S) else none
      | _ => none) = _
    rw [hs, i_clamp (by omega)]
    exact if_pos (i_inb h0 h1 (by omega)))]
  exact k
theorem xo_zast {d : Nat} {M : jj_M} {pc : Nat} {lc st : List Value} {Z Y : Nat → Nat → Int} {S : Nat × (Nat → Int32)} {Q : Option Value → jj_Hp → Prop} {i v : Int} {a n : Nat} (hd : decode M.1.2 pc = .ok (.bastore, 1)) (hs : jj_sh[a]? = some (.inr (.boolean, n))) (hn : n ≤ 2000) (h0 : 0 ≤ i) (h1 : i < n) (h01 : v = 0 ∨ v = 1) (k : jj_Ex d M (pc + 1) lc (st) (jj_h (zu Z a i.toNat v) Y S) Q) : jj_Ex d M pc lc (iv v :: iv i :: .ref a :: st) (jj_h Z Y S) Q := by
  rw [jj_xs (P := (pc + 1, lc, st, jj_h (zu Z a i.toNat v) Y S)) hd rfl rfl rfl (by
    show (match jj_sh[a]? with
      | some (.inr (.boolean, n)) => if jj_inb (Int32.ofInt i) n ∧ jj_b01 (Int32.ofInt v) = true then some (pc + 1, lc, st, jj_iu (jj_h Z Y S) a (Int32.ofInt i).toNatClampNeg (Int32.ofInt v)) else none
      | _ => none) = _
    rw [hs, i_clamp (by omega), iu_h]
    exact if_pos ⟨i_inb h0 h1 (by omega), by rcases h01 with rfl | rfl <;> rfl⟩)]
  exact k
theorem xo_last {d : Nat} {M : jj_M} {pc : Nat} {lc st : List Value} {Z Y : Nat → Nat → Int} {S : Nat × (Nat → Int32)} {Q : Option Value → jj_Hp → Prop} {i v : Int} {a n : Nat} (hd : decode M.1.2 pc = .ok (.lastore, 1)) (hs : jj_sh[a]? = some (.inr (.long, n))) (hn : n ≤ 2000) (h0 : 0 ≤ i) (h1 : i < n) (k : jj_Ex d M (pc + 1) lc (st) (jj_h Z (zu Y a i.toNat v) S) Q) : jj_Ex d M pc lc (lv v :: iv i :: .ref a :: st) (jj_h Z Y S) Q := by
  rw [jj_xs (P := (pc + 1, lc, st, jj_h Z (zu Y a i.toNat v) S)) hd rfl rfl rfl (by
    show (match jj_sh[a]? with
      | some (.inr (.long, n)) => if jj_inb (Int32.ofInt i) n then some (pc + 1, lc, st, jj_lu (jj_h Z Y S) a (Int32.ofInt i).toNatClampNeg (Int64.ofInt v)) else none
      | _ => none) = _
    rw [hs, i_clamp (by omega), lu_h]
    exact if_pos (i_inb h0 h1 (by omega)))]
  exact k
theorem xo_sald {d : Nat} {M : jj_M} {pc : Nat} {lc st : List Value} {Z Y : Nat → Nat → Int} {S : Nat × (Nat → Int32)} {Q : Option Value → jj_Hp → Prop} {i : Int} {xs : Nat → Int32} {L : Nat} (hd : decode M.1.2 pc = .ok (.iaload, 1)) (h0 : 0 ≤ i) (h1 : i < L) (hL : L ≤ 2147483647) (k : jj_Ex d M (pc + 1) lc (iv (xs i.toNat).toInt :: st) (jj_h Z Y (L, xs)) Q) : jj_Ex d M pc lc (iv i :: .ref jj_sc :: st) (jj_h Z Y (L, xs)) Q := by
  refine Eq.mpr (jj_xs (P := (pc + 1, lc, iv (xs i.toNat).toInt :: st, jj_h Z Y (L, xs))) hd rfl rfl rfl ?_) k
  have e0 : jj_st M.2.2.2.1 .iaload pc lc (iv i :: .ref jj_sc :: st) (jj_h Z Y (L, xs)) = (if jj_inb (Int32.ofInt i) L then some (pc + 1, lc, Value.int (xs (Int32.ofInt i).toNatClampNeg) :: st, jj_h Z Y (L, xs)) else none) := rfl
  rw [e0, i_clamp (by omega), if_pos (i_inb h0 h1 hL)]
  show some (pc + 1, lc, Value.int (xs i.toNat) :: st, jj_h Z Y (L, xs)) = some (pc + 1, lc, Value.int (Int32.ofInt (xs i.toNat).toInt) :: st, jj_h Z Y (L, xs))
  rw [Int32.ofInt_toInt]
theorem xo_slen {d : Nat} {M : jj_M} {pc : Nat} {lc st : List Value} {Z Y : Nat → Nat → Int} {S : Nat × (Nat → Int32)} {Q : Option Value → jj_Hp → Prop} {xs : Nat → Int32} {L : Nat} (hd : decode M.1.2 pc = .ok (.arraylength, 1)) (k : jj_Ex d M (pc + 1) lc (iv (L : Nat) :: st) (jj_h Z Y (L, xs)) Q) : jj_Ex d M pc lc (.ref jj_sc :: st) (jj_h Z Y (L, xs)) Q := by
  exact Eq.mpr (jj_xs (P := (pc + 1, lc, iv (L : Nat) :: st, jj_h Z Y (L, xs))) hd rfl rfl rfl rfl) k
theorem xo_alen {d : Nat} {M : jj_M} {pc : Nat} {lc st : List Value} {Z Y : Nat → Nat → Int} {S : Nat × (Nat → Int32)} {Q : Option Value → jj_Hp → Prop} {a n : Nat} {ty : FieldType} (hd : decode M.1.2 pc = .ok (.arraylength, 1)) (hs : jj_sh[a]? = some (.inr (ty, n))) (k : jj_Ex d M (pc + 1) lc (iv (n : Nat) :: st) (jj_h Z Y S) Q) : jj_Ex d M pc lc (.ref a :: st) (jj_h Z Y S) Q := by
  have ha : a < 46 := jj_sh_lt hs
  rw [jj_xs (P := (pc + 1, lc, iv (n : Nat) :: st, jj_h Z Y S)) hd rfl rfl rfl (by
    show (if a = jj_sc then _ else (match jj_sh[a]? with
      | some (.inr (_, n)) => some (pc + 1, lc, Value.int (Int32.ofNat n) :: st, jj_h Z Y S)
      | _ => none)) = _
    rw [if_neg (by show a ≠ 1000; omega), hs]
    rfl)]
  exact k
theorem xo_iret {d : Nat} {M : jj_M} {pc : Nat} {lc : List Value} {Z Y : Nat → Nat → Int} {S : Nat × (Nat → Int32)} {Q : Option Value → jj_Hp → Prop} {x : Int} (hd : decode M.1.2 pc = .ok (.ireturn, 1)) (hr : M.2.2.1 = some .int) (k : Q (some (iv x)) (jj_h Z Y S)) : jj_Ex d M pc lc [iv x] (jj_h Z Y S) Q := by
  rw [jj_xf (r := some (iv x)) hd rfl (by rw [hr]; rfl)]
  exact k
theorem xo_zret {d : Nat} {M : jj_M} {pc : Nat} {lc : List Value} {Z Y : Nat → Nat → Int} {S : Nat × (Nat → Int32)} {Q : Option Value → jj_Hp → Prop} {x : Int} (hd : decode M.1.2 pc = .ok (.ireturn, 1)) (hr : M.2.2.1 = some .boolean) (h01 : x = 0 ∨ x = 1) (k : Q (some (iv x)) (jj_h Z Y S)) : jj_Ex d M pc lc [iv x] (jj_h Z Y S) Q := by
  rw [jj_xf (r := some (iv x)) hd rfl (by rw [hr]; rcases h01 with rfl | rfl <;> rfl)]
  exact k
theorem xo_lret {d : Nat} {M : jj_M} {pc : Nat} {lc : List Value} {Z Y : Nat → Nat → Int} {S : Nat × (Nat → Int32)} {Q : Option Value → jj_Hp → Prop} {x : Int} (hd : decode M.1.2 pc = .ok (.lreturn, 1)) (hr : M.2.2.1 = some .long) (k : Q (some (lv x)) (jj_h Z Y S)) : jj_Ex d M pc lc [lv x] (jj_h Z Y S) Q := by
  rw [jj_xf (r := some (lv x)) hd rfl (by rw [hr]; rfl)]
  exact k
theorem xo_aret {d : Nat} {M : jj_M} {pc : Nat} {lc : List Value} {Z Y : Nat → Nat → Int} {S : Nat × (Nat → Int32)} {Q : Option Value → jj_Hp → Prop} {x : Nat} (hd : decode M.1.2 pc = .ok (.areturn, 1)) (hr : jj_aok M.2.2.1 = true) (k : Q (some (.ref x)) (jj_h Z Y S)) : jj_Ex d M pc lc [.ref x] (jj_h Z Y S) Q := by
  refine Eq.mpr (jj_xf (r := some (.ref x)) hd rfl ?_) k
  exact if_pos hr
theorem xo_vret {d : Nat} {M : jj_M} {pc : Nat} {lc : List Value} {Z Y : Nat → Nat → Int} {S : Nat × (Nat → Int32)} {Q : Option Value → jj_Hp → Prop} (hd : decode M.1.2 pc = .ok (.return_, 1)) (hr : M.2.2.1 = none) (k : Q none (jj_h Z Y S)) : jj_Ex d M pc lc [] (jj_h Z Y S) Q := by
  refine Eq.mpr (jj_xf (r := none) hd rfl ?_) k
  exact if_pos hr
/-- calls, by what they give back -/
def jj_Ci (d : Nat) (M : jj_M) (vs : List Value) (h : jj_Hp) (K : Int → jj_Hp → Prop) : Prop := jj_Ca d M vs h (fun r h1 => ∃ x, r = some (iv x) ∧ K x h1)
def jj_Cl (d : Nat) (M : jj_M) (vs : List Value) (h : jj_Hp) (K : Int → jj_Hp → Prop) : Prop := jj_Ca d M vs h (fun r h1 => ∃ x, r = some (lv x) ∧ K x h1)
def jj_Cr (d : Nat) (M : jj_M) (vs : List Value) (h : jj_Hp) (K : Nat → jj_Hp → Prop) : Prop := jj_Ca d M vs h (fun r h1 => ∃ x, r = some (.ref x) ∧ K x h1)
def jj_Cv (d : Nat) (M : jj_M) (vs : List Value) (h : jj_Hp) (K : jj_Hp → Prop) : Prop := jj_Ca d M vs h (fun r h1 => r = none ∧ K h1)
theorem xo_calli {d : Nat} {M M' : jj_M} {pc len : Nat} {ins : Instr} {lc st vs rest : List Value} {h : jj_Hp} {Q : Option Value → jj_Hp → Prop} (hd : decode M.1.2 pc = .ok (ins, len)) (hl : jj_len ins len = len) (hf : jj_fin M.2.2.1 ins st = none) (hc : jj_cal M.2.2.2.1 ins st = some (M', vs, rest)) (hk : jj_cok (M', vs, rest) = true) (k : jj_Ci d M' vs h (fun x h1 => jj_Ex (d + 1) M (pc + 3) lc (iv x :: rest) h1 Q)) : jj_Ex (d + 1) M pc lc st h Q := by
  rw [jj_xc hd hl hf hc hk]
  refine jj_Ca.imp k (fun r h1 b => ?_)
  obtain ⟨x, rfl, b⟩ := b
  exact b
theorem xo_calll {d : Nat} {M M' : jj_M} {pc len : Nat} {ins : Instr} {lc st vs rest : List Value} {h : jj_Hp} {Q : Option Value → jj_Hp → Prop} (hd : decode M.1.2 pc = .ok (ins, len)) (hl : jj_len ins len = len) (hf : jj_fin M.2.2.1 ins st = none) (hc : jj_cal M.2.2.2.1 ins st = some (M', vs, rest)) (hk : jj_cok (M', vs, rest) = true) (k : jj_Cl d M' vs h (fun x h1 => jj_Ex (d + 1) M (pc + 3) lc (lv x :: rest) h1 Q)) : jj_Ex (d + 1) M pc lc st h Q := by
  rw [jj_xc hd hl hf hc hk]
  refine jj_Ca.imp k (fun r h1 b => ?_)
  obtain ⟨x, rfl, b⟩ := b
  exact b
theorem xo_callr {d : Nat} {M M' : jj_M} {pc len : Nat} {ins : Instr} {lc st vs rest : List Value} {h : jj_Hp} {Q : Option Value → jj_Hp → Prop} (hd : decode M.1.2 pc = .ok (ins, len)) (hl : jj_len ins len = len) (hf : jj_fin M.2.2.1 ins st = none) (hc : jj_cal M.2.2.2.1 ins st = some (M', vs, rest)) (hk : jj_cok (M', vs, rest) = true) (k : jj_Cr d M' vs h (fun x h1 => jj_Ex (d + 1) M (pc + 3) lc (.ref x :: rest) h1 Q)) : jj_Ex (d + 1) M pc lc st h Q := by
  rw [jj_xc hd hl hf hc hk]
  refine jj_Ca.imp k (fun r h1 b => ?_)
  obtain ⟨x, rfl, b⟩ := b
  exact b
theorem xo_callv {d : Nat} {M M' : jj_M} {pc len : Nat} {ins : Instr} {lc st vs rest : List Value} {h : jj_Hp} {Q : Option Value → jj_Hp → Prop} (hd : decode M.1.2 pc = .ok (ins, len)) (hl : jj_len ins len = len) (hf : jj_fin M.2.2.1 ins st = none) (hc : jj_cal M.2.2.2.1 ins st = some (M', vs, rest)) (hk : jj_cok (M', vs, rest) = true) (k : jj_Cv d M' vs h (fun h1 => jj_Ex (d + 1) M (pc + 3) lc (rest) h1 Q)) : jj_Ex (d + 1) M pc lc st h Q := by
  rw [jj_xc hd hl hf hc hk]
  refine jj_Ca.imp k (fun r h1 b => ?_)
  obtain ⟨rfl, b⟩ := b
  exact b

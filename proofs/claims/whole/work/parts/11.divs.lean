/-! division of what is not negative -/
section XD
variable {d : Nat} {M : jj_M} {pc : Nat} {lc st : List Value} {Z Y : Nat → Nat → Int} {S : Nat × (Nat → Int32)} {Q : Option Value → jj_Hp → Prop}
theorem xo_idivn {x y : Int} (hd : decode M.1.2 pc = .ok (.idiv, 1)) (hx : 0 ≤ x ∧ x ≤ 2147483647) (hy : 0 < y ∧ y ≤ 2147483647) (k : jj_Ex d M (pc + 1) lc (iv (x / y) :: st) (jj_h Z Y S) Q) : jj_Ex d M pc lc (iv y :: iv x :: st) (jj_h Z Y S) Q :=
  xo_idiv hd (by omega) (by omega) (by omega) (by rw [Int.tdiv_eq_ediv_of_nonneg hx.1]; exact k)
theorem xo_iremn {x y : Int} (hd : decode M.1.2 pc = .ok (.irem, 1)) (hx : 0 ≤ x ∧ x ≤ 2147483647) (hy : 0 < y ∧ y ≤ 2147483647) (k : jj_Ex d M (pc + 1) lc (iv (x % y) :: st) (jj_h Z Y S) Q) : jj_Ex d M pc lc (iv y :: iv x :: st) (jj_h Z Y S) Q :=
  xo_irem hd (by omega) (by omega) (by omega) (by rw [Int.tmod_eq_emod_of_nonneg hx.1]; exact k)
theorem xo_lremn {x y : Int} (hd : decode M.1.2 pc = .ok (.lrem, 1)) (hx : 0 ≤ x ∧ x ≤ 9223372036854775807) (hy : 0 < y ∧ y ≤ 9223372036854775807) (k : jj_Ex d M (pc + 1) lc (lv (x % y) :: st) (jj_h Z Y S) Q) : jj_Ex d M pc lc (lv y :: lv x :: st) (jj_h Z Y S) Q :=
  xo_lrem hd (by omega) (by omega) (by omega) (by rw [Int.tmod_eq_emod_of_nonneg hx.1]; exact k)
theorem xo_ldivn {x y : Int} (hd : decode M.1.2 pc = .ok (.ldiv, 1)) (hx : 0 ≤ x ∧ x ≤ 9223372036854775807) (hy : 0 < y ∧ y ≤ 9223372036854775807) (k : jj_Ex d M (pc + 1) lc (lv (x / y) :: st) (jj_h Z Y S) Q) : jj_Ex d M pc lc (lv y :: lv x :: st) (jj_h Z Y S) Q :=
  xo_ldiv hd (by omega) (by omega) (by omega) (by rw [Int.tdiv_eq_ediv_of_nonneg hx.1]; exact k)
end XD

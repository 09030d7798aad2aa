/-! shifts, masks, switches -/
theorem o_bv (z : Int) : (Int32.ofInt z).toBitVec = BitVec.ofInt 32 z := rfl
theorem o_nat {z : Int} (h : 0 ≤ z ∧ z ≤ 2147483647) : (Int32.ofInt z).toBitVec.toNat = z.toNat := by
  rw [o_bv, BitVec.toNat_ofInt]
  omega
theorem o_ofNat (n : Nat) : Int32.ofInt (n : Int) = nI n := rfl
theorem o_lit {z : Int} (h : 0 ≤ z) : Int32.ofInt z = nI z.toNat := by
  obtain ⟨n, rfl⟩ := Int.eq_ofNat_of_zero_le h
  rfl
theorem sh_l : ∀ n, n < 32 → ((nI n &&& 31).toBitVec.smod 32).toNat = n := by decide +kernel
section XB
variable {d : Nat} {M : jj_M} {pc : Nat} {lc st : List Value} {Z Y : Nat → Nat → Int} {S : Nat × (Nat → Int32)} {Q : Option Value → jj_Hp → Prop}
theorem xo_shl1 {s : Int} (hd : decode M.1.2 pc = .ok (.ishl, 1)) (h0 : 0 ≤ s) (h1 : s ≤ 30) (k : jj_Ex d M (pc + 1) lc (iv ((2 ^ s.toNat : Nat) : Int) :: st) (jj_h Z Y S) Q) : jj_Ex d M pc lc (iv s :: iv 1 :: st) (jj_h Z Y S) Q := by
  refine Eq.mpr (jj_xs (P := (pc + 1, lc, iv ((2 ^ s.toNat : Nat) : Int) :: st, jj_h Z Y S)) hd rfl rfl rfl ?_) k
  show some (pc + 1, lc, Value.int (Int32.ofInt 1 <<< (Int32.ofInt s &&& 31)) :: st, jj_h Z Y S) = _
  have e : Int32.ofInt 1 <<< (Int32.ofInt s &&& 31) = Int32.ofInt ((2 ^ s.toNat : Nat) : Int) := by
    rw [o_lit h0, o_ofNat]
    have hs : s.toNat ≤ 30 := by omega
    have := pk_shlN (n := 1) (nI s.toNat &&& 31) s.toNat (sh_l _ (by omega)) (by
      have : 2 ^ s.toNat ≤ 2 ^ 30 := Nat.pow_le_pow_right (by omega) hs
      omega)
    rw [Nat.one_mul] at this
    exact this
  rw [e]
  rfl
theorem xo_shr {x s : Int} (hd : decode M.1.2 pc = .ok (.ishr, 1)) (hx : 0 ≤ x ∧ x ≤ 2147483647) (h0 : 0 ≤ s) (h1 : s ≤ 31) (k : jj_Ex d M (pc + 1) lc (iv ((x.toNat / 2 ^ s.toNat : Nat) : Int) :: st) (jj_h Z Y S) Q) : jj_Ex d M pc lc (iv s :: iv x :: st) (jj_h Z Y S) Q := by
  refine Eq.mpr (jj_xs (P := (pc + 1, lc, iv ((x.toNat / 2 ^ s.toNat : Nat) : Int) :: st, jj_h Z Y S)) hd rfl rfl rfl ?_) k
  show some (pc + 1, lc, Value.int (Int32.ofInt x >>> (Int32.ofInt s &&& 31)) :: st, jj_h Z Y S) = _
  have e : Int32.ofInt x >>> (Int32.ofInt s &&& 31) = Int32.ofInt ((x.toNat / 2 ^ s.toNat : Nat) : Int) := by
    rw [o_lit h0, o_lit hx.1, o_ofNat]
    exact pk_shrN (by omega) (nI s.toNat &&& 31) s.toNat (sh_l _ (by omega))
  rw [e]
  rfl
theorem xo_and1 {x : Int} (hd : decode M.1.2 pc = .ok (.iand, 1)) (hx : 0 ≤ x ∧ x ≤ 2147483647) (k : jj_Ex d M (pc + 1) lc (iv (x % 2) :: st) (jj_h Z Y S) Q) : jj_Ex d M pc lc (iv 1 :: iv x :: st) (jj_h Z Y S) Q := by
  refine Eq.mpr (jj_xs (P := (pc + 1, lc, iv (x % 2) :: st, jj_h Z Y S)) hd rfl rfl rfl ?_) k
  show some (pc + 1, lc, Value.int (Int32.ofInt x &&& Int32.ofInt 1) :: st, jj_h Z Y S) = _
  have e : Int32.ofInt x &&& Int32.ofInt 1 = Int32.ofInt (x % 2) := by
    obtain ⟨n, rfl⟩ := Int.eq_ofNat_of_zero_le hx.1
    have h1 : ((n : Int) % 2) = ((n % 2 : Nat) : Int) := by omega
    rw [h1, o_ofNat, o_ofNat]
    exact pk_andN (n := n) (by omega) (m := Int32.ofInt 1) 1 (by decide)
  rw [e]
  rfl
theorem xo_and31 {x : Int} (hd : decode M.1.2 pc = .ok (.iand, 1)) (k : ∀ n : Nat, n < 32 → jj_Ex d M (pc + 1) lc (iv (n : Int) :: st) (jj_h Z Y S) Q) : jj_Ex d M pc lc (iv 31 :: iv x :: st) (jj_h Z Y S) Q := by
  obtain ⟨j, hj, e⟩ := pk_andE (Int32.ofInt x) (m := Int32.ofInt 31) 5 (by decide)
  refine Eq.mpr (jj_xs (P := (pc + 1, lc, iv (j : Int) :: st, jj_h Z Y S)) hd rfl rfl rfl ?_) (k j hj)
  show some (pc + 1, lc, Value.int (Int32.ofInt x &&& Int32.ofInt 31) :: st, jj_h Z Y S) = _
  rw [e]
  rfl
theorem xo_or {x y : Int} (hd : decode M.1.2 pc = .ok (.ior, 1)) (hx : 0 ≤ x ∧ x ≤ 2147483647) (hy : 0 ≤ y ∧ y ≤ 2147483647) (k : jj_Ex d M (pc + 1) lc (iv ((x.toNat ||| y.toNat : Nat) : Int) :: st) (jj_h Z Y S) Q) : jj_Ex d M pc lc (iv y :: iv x :: st) (jj_h Z Y S) Q := by
  refine Eq.mpr (jj_xs (P := (pc + 1, lc, iv ((x.toNat ||| y.toNat : Nat) : Int) :: st, jj_h Z Y S)) hd rfl rfl rfl ?_) k
  show some (pc + 1, lc, Value.int (Int32.ofInt x ||| Int32.ofInt y) :: st, jj_h Z Y S) = _
  have e : Int32.ofInt x ||| Int32.ofInt y = Int32.ofInt ((x.toNat ||| y.toNat : Nat) : Int) := by
    apply Int32.toBitVec_inj.mp
    apply BitVec.eq_of_toNat_eq
    rw [Int32.toBitVec_or, BitVec.toNat_or, o_nat hx, o_nat hy, o_ofNat, pk_tn]
    have h1 : x.toNat < 2 ^ 31 := by omega
    have h2 : y.toNat < 2 ^ 31 := by omega
    have h3 := Nat.or_lt_two_pow h1 h2
    omega
  rw [e]
  rfl
def jj_tst (pc : Nat) (dflt lo hi : Int) (offs : Array Int) (x : Int) : Option Nat := (if x < lo ∨ hi < x then some dflt else offs[(x - lo).toNat]?).bind (jj_jmp pc)
theorem xo_tsw {dflt lo hi x : Int} {offs : Array Int} {len t : Nat} (hd : decode M.1.2 pc = .ok (.tableswitch dflt lo hi offs, len)) (hx : -2147483648 ≤ x ∧ x ≤ 2147483647) (ht : jj_tst pc dflt lo hi offs x = some t) (k : jj_Ex d M t lc st (jj_h Z Y S) Q) : jj_Ex d M pc lc (iv x :: st) (jj_h Z Y S) Q := by
  refine Eq.mpr (jj_xs (P := (t, lc, st, jj_h Z Y S)) hd rfl rfl rfl ?_) k
  show (jj_tsw dflt lo hi offs (Int32.ofInt x)).bind (fun off => (jj_jmp pc off).map fun t => (t, lc, st, jj_h Z Y S)) = _
  unfold jj_tst at ht
  unfold jj_tsw
  rw [i_toInt hx]
  cases hq : (if x < lo ∨ hi < x then some dflt else offs[(x - lo).toNat]?) with
  | none => rw [hq] at ht; cases ht
  | some off =>
    rw [hq] at ht
    have ht : jj_jmp pc off = some t := ht
    show (jj_jmp pc off).map _ = _
    rw [ht]
    rfl
theorem jj_tst_out {pc t : Nat} {dflt lo hi x : Int} {offs : Array Int} (h : x < lo ∨ hi < x) (ht : jj_jmp pc dflt = some t) : jj_tst pc dflt lo hi offs x = some t := by
  unfold jj_tst
  rw [if_pos h]
  exact ht
end XB

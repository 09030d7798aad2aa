/-! corners of the class, bases of the reference: what each finds -/
def cf (b : Bk) (r : Nat) : Bool := decide (¬ bO b r = 0 ∧ ¬ bK b r = 2)
def rn (b : Bk) : Nat := 2 * bN b + fp (cf b) (bM b)
def rowf (b : Bk) (k t : Nat) : Int := if k < 2 * bN b then (if t = k / 2 then (if k % 2 = 0 then 1 else -1) else 0) else bF b (gd (cf b) (bM b) (k - 2 * bN b)) t
def bnd (b : Bk) (k : Nat) : Int := if k < 2 * bN b then (if k % 2 = 0 then bT b (k / 2) else 0) else bI b (gd (cf b) (bM b) (k - 2 * bN b))
def rul (b : Bk) (k : Nat) : Int := if k < 2 * bN b then -1000000 else ((gd (cf b) (bM b) (k - 2 * bN b) : Nat) : Int)
def sgn (x : Int) : Int := if x < 0 then -1 else 1
theorem sgn_pos {x : Int} (h : x ≠ 0) : 0 < sgn x * x := by
  unfold sgn
  split <;> omega
/-- the class -/
def ckk (b : Bk) (p : Nat) : Nat := fp (bt p) (bM b)
def CA (b : Bk) (p q c i : Nat) : Int := bF b (gd (bt p) (bM b) c) (gd (bt q) (bN b) i)
def cdu (b : Bk) (q i : Nat) : Int := bW b (gd (bt q) (bN b) i)
def cD (b : Bk) (p q : Nat) : Int := jdt (ckk b p) (CA b p q)
def cN (b : Bk) (p q c : Nat) : Int := jdt (ckk b p) (rr (CA b p q) c (cdu b q))
def bel (b : Bk) (p q : Nat) : Int := sgn (cD b p q) * cD b p q
def slo (b : Bk) (p q r : Nat) : Int := if bt p r = true then sgn (cD b p q) * cN b p q (fp (bt p) r) else 0
def VC (b : Bk) (p q : Nat) : Prop := (∀ r, r < bM b → bt p r = true → cf b r = true) ∧ ckk b p = fp (bt q) (bN b) ∧ cD b p q ≠ 0 ∧ ∀ c, c < ckk b p → 0 ≤ sgn (cD b p q) * cN b p q c
def bey (b : Bk) (p q t : Nat) : Int := bW b t * bel b p q - sf (fun r => bF b r t * slo b p q r) 0 (bM b)
def topc (b : Bk) (p q : Nat) : Int := sf (fun r => bI b r * slo b p q r) 0 (bM b) + sf (fun t => bT b t * max 0 (bey b p q t)) 0 (bN b)
/-- the reference -/
def mC (b : Bk) (s i : Nat) : Nat := gd (bt s) (rn b) i
def MA (b : Bk) (s i t : Nat) : Int := rowf b (mC b s i) t
def mD (b : Bk) (s : Nat) : Int := jdt (bN b) (MA b s)
def mN (b : Bk) (s i : Nat) : Int := jdt (bN b) (rr (MA b s) i (bW b))
def RV (b : Bk) (s : Nat) : Prop := fp (bt s) (rn b) = bN b ∧ mD b s ≠ 0 ∧ ∀ i, i < bN b → 0 ≤ sgn (mD b s) * mN b s i
def mbl (b : Bk) (s : Nat) : Int := sgn (mD b s) * mD b s
def my (b : Bk) (s k : Nat) : Int := if bt s k = true then sgn (mD b s) * mN b s (fp (bt s) k) else 0
def mp (b : Bk) (s r : Nat) : Int := if cf b r = true then my b s (2 * bN b + fp (cf b) r) else 0
def msum (b : Bk) (s : Nat) : Int := sf (fun i => sgn (mD b s) * mN b s i * bnd b (mC b s i)) 0 (bN b)
section PT
variable {b : Bk} {p q s : Nat}
theorem class_eq (hB : BR b) (hk : ckk b p = fp (bt q) (bN b)) {t : Nat} (ht : t < bN b) (hq : bt q t = true) : sf (fun r => slo b p q r * bF b r t) 0 (bM b) = bel b p q * bW b t := by
  have h4 := hB.1
  have hle := fp_le (bt q) (bN b)
  have hi : fp (bt q) t < ckk b p := by rw [hk]; exact fp_lt hq ht
  have e : gd (bt q) (bN b) (fp (bt q) t) = t := gd_at hq ht
  have c := cramer (n := ckk b p) (by omega) (CA b p q) (cdu b q) hi
  have c2 : sf (fun c => cN b p q c * bF b (gd (bt p) (bM b) c) t) 0 (fp (bt p) (bM b)) = cD b p q * bW b t := by
    have e2 : cdu b q (fp (bt q) t) = bW b t := by unfold cdu; rw [e]
    rw [e2] at c
    rw [show cD b p q = jdt (ckk b p) (CA b p q) from rfl, ← c]
    refine sf_congr _ _ (fun i _ _ => ?_)
    show _ = _ * bF b (gd (bt p) (bM b) i) (gd (bt q) (bN b) (fp (bt q) t))
    rw [e]; rfl
  rw [sf_fl (fun c r => cN b p q c * bF b r t)] at c2
  rw [show bel b p q * bW b t = sgn (cD b p q) * (cD b p q * bW b t) by unfold bel; rw [Int.mul_assoc], ← c2, ← sf_mul]
  refine sf_congr _ _ (fun r _ _ => ?_)
  unfold slo
  by_cases h : bt p r = true
  · rw [if_pos h, if_pos h, Int.mul_assoc]
  · rw [if_neg h, if_neg h, Int.zero_mul, Int.mul_zero]
theorem class_uniq (hB : BR b) (hk : ckk b p = fp (bt q) (bN b)) {y : Nat → Int} {d : Int} (h0 : ∀ r, r < bM b → bt p r = false → y r = 0) (he : ∀ t, t < bN b → bt q t = true → sf (fun r => y r * bF b r t) 0 (bM b) = d * bW b t) {r : Nat} (hr : r < bM b) : bel b p q * y r = d * slo b p q r := by
  have h4 := hB.1
  have hle := fp_le (bt q) (bN b)
  unfold slo
  rcases bcs (bt p) r with h | h
  · rw [if_pos h]
    have hc : fp (bt p) r < ckk b p := fp_lt h hr
    have e : gd (bt p) (bM b) (fp (bt p) r) = r := gd_at h hr
    have l := jdt_lin (n := ckk b p) (by omega) (CA b p q) (fun j => y (gd (bt p) (bM b) j)) hc
    have m : jdt (ckk b p) (rr (CA b p q) (fp (bt p) r) (fun t => sf (fun j => y (gd (bt p) (bM b) j) * CA b p q j t) 0 (ckk b p))) = jdt (ckk b p) (rr (CA b p q) (fp (bt p) r) (fun t => d * cdu b q t)) := by
      refine jdt_congr (fun i t hi ht => ?_)
      unfold rr
      by_cases ei : i = fp (bt p) r
      · rw [if_pos ei, if_pos ei]
        obtain ⟨g1, g2, g3⟩ := gd_in (φ := bt q) (n := bN b) (c := t) (by omega)
        have a := he _ g1 g2
        show sf (fun j => y (gd (bt p) (bM b) j) * bF b (gd (bt p) (bM b) j) (gd (bt q) (bN b) t)) 0 (fp (bt p) (bM b)) = d * bW b (gd (bt q) (bN b) t)
        rw [← a]
        rw [sf_fl (fun _ r => y r * bF b r (gd (bt q) (bN b) t))]
        refine sf_congr _ _ (fun r' _ hr' => ?_)
        rcases bcs (bt p) r' with h' | h'
        · rw [if_pos h']
        · rw [if_neg (by rw [h']; exact Bool.false_ne_true), h0 r' (by omega) h', Int.zero_mul]
      · rw [if_neg ei, if_neg ei]
    rw [m, jdt_hom (by omega) _ _ _ hc, e] at l
    show sgn (cD b p q) * cD b p q * y r = d * (sgn (cD b p q) * jdt (ckk b p) (rr (CA b p q) (fp (bt p) r) (cdu b q)))
    rw [show d * (sgn (cD b p q) * jdt (ckk b p) (rr (CA b p q) (fp (bt p) r) (cdu b q))) = sgn (cD b p q) * (d * jdt (ckk b p) (rr (CA b p q) (fp (bt p) r) (cdu b q))) by rw [Int.mul_left_comm], l, Int.mul_assoc, Int.mul_comm (y r)]
    rfl
  · rw [if_neg (by rw [h]; exact Bool.false_ne_true), h0 r hr h, Int.mul_zero, Int.mul_zero]
theorem sf_split (f : Nat → Int) : ∀ (m n k : Nat), sf f k (m + n) = sf f k m + sf f (k + m) n
  | 0, n, k => by rw [Nat.zero_add, Nat.add_zero]; show _ = 0 + _; omega
  | m + 1, n, k => by
    rw [show m + 1 + n = (m + n) + 1 by omega, show k + (m + 1) = k + 1 + m by omega]
    show f k + sf f (k + 1) (m + n) = f k + sf f (k + 1) m + sf f (k + 1 + m) n
    rw [sf_split f m n (k + 1)]; omega
theorem sf_shift (f : Nat → Int) : ∀ (n a k : Nat), sf f (a + k) n = sf (fun j => f (a + j)) k n
  | 0, a, k => rfl
  | n + 1, a, k => by
    show f (a + k) + sf f (a + k + 1) n = f (a + k) + sf (fun j => f (a + j)) (k + 1) n
    rw [← sf_shift f n a (k + 1)]; rfl
/-- a sum over all rows: the bounds of each THING, then the rules that count -/
theorem sf_rows (b : Bk) (g : Nat → Int) : sf g 0 (rn b) = sf (fun t => g (2 * t) + g (2 * t + 1)) 0 (bN b) + sf (fun r => if cf b r = true then g (2 * bN b + fp (cf b) r) else 0) 0 (bM b) := by
  unfold rn
  rw [sf_split, Nat.zero_add]
  congr 1
  · have aux : ∀ n, sf g 0 (2 * n) = sf (fun t => g (2 * t) + g (2 * t + 1)) 0 n := by
      intro n
      induction n with
      | zero => rfl
      | succ n ih =>
        rw [show 2 * (n + 1) = 2 * n + 1 + 1 by omega, sf_one, sf_one, sf_one, ih]; omega
    exact aux (bN b)
  · have := sf_fl (φ := cf b) (fun c _ => g (2 * bN b + c)) (bM b)
    rw [← this]
    have e := sf_shift g (fp (cf b) (bM b)) (2 * bN b) 0
    rw [Nat.add_zero] at e
    exact e
theorem rowf_b (b : Bk) {k : Nat} (hk : k < 2 * bN b) (t : Nat) : rowf b k t = if t = k / 2 then (if k % 2 = 0 then 1 else -1) else 0 := if_pos hk
theorem rowf_r (b : Bk) {r : Nat} (hr : r < bM b) (hc : cf b r = true) (t : Nat) : rowf b (2 * bN b + fp (cf b) r) t = bF b r t := by
  unfold rowf
  rw [if_neg (by omega), show 2 * bN b + fp (cf b) r - 2 * bN b = fp (cf b) r by omega, gd_at hc hr]
theorem bnd_r (b : Bk) {r : Nat} (hr : r < bM b) (hc : cf b r = true) : bnd b (2 * bN b + fp (cf b) r) = bI b r := by
  unfold bnd
  rw [if_neg (by omega), show 2 * bN b + fp (cf b) r - 2 * bN b = fp (cf b) r by omega, gd_at hc hr]
theorem rul_r (b : Bk) {r : Nat} (hr : r < bM b) (hc : cf b r = true) : rul b (2 * bN b + fp (cf b) r) = (r : Int) := by
  unfold rul
  rw [if_neg (by omega), show 2 * bN b + fp (cf b) r - 2 * bN b = fp (cf b) r by omega, gd_at hc hr]
theorem sf_unit (f : Nat → Int) {t : Nat} : ∀ n, sf (fun u => if t = u then f u else 0) 0 n = if t < n then f t else 0
  | 0 => by rw [if_neg (by omega)]; rfl
  | n + 1 => by
    rw [sf_one, sf_unit f n]
    by_cases e : t = n
    · subst e; rw [if_neg (by omega), if_pos rfl, if_pos (by omega)]; omega
    · rw [if_neg e]
      by_cases l : t < n
      · rw [if_pos l, if_pos (by omega)]; omega
      · rw [if_neg l, if_neg (by omega)]; rfl
theorem model_eq (hB : BR b) (hs : fp (bt s) (rn b) = bN b) {t : Nat} (ht : t < bN b) : my b s (2 * t) - my b s (2 * t + 1) + sf (fun r => mp b s r * bF b r t) 0 (bM b) = mbl b s * bW b t := by
  have h4 := hB.1
  have c := cramer (n := bN b) h4 (MA b s) (bW b) ht
  have c2 : sf (fun i => mN b s i * rowf b (gd (bt s) (rn b) i) t) 0 (fp (bt s) (rn b)) = mD b s * bW b t := by
    rw [hs]; exact c
  rw [sf_fl (fun i k => mN b s i * rowf b k t)] at c2
  have c3 : sf (fun k => my b s k * rowf b k t) 0 (rn b) = mbl b s * bW b t := by
    rw [show mbl b s * bW b t = sgn (mD b s) * (mD b s * bW b t) by unfold mbl; rw [Int.mul_assoc], ← c2, ← sf_mul]
    refine sf_congr _ _ (fun k _ _ => ?_)
    unfold my
    by_cases h : bt s k = true
    · rw [if_pos h, if_pos h, Int.mul_assoc]
    · rw [if_neg h, if_neg h, Int.zero_mul, Int.mul_zero]
  rw [← c3, sf_rows]
  congr 1
  · have : sf (fun u => my b s (2 * u) * rowf b (2 * u) t + my b s (2 * u + 1) * rowf b (2 * u + 1) t) 0 (bN b) = sf (fun u => if t = u then my b s (2 * u) - my b s (2 * u + 1) else 0) 0 (bN b) := by
      refine sf_congr _ _ (fun u _ hu => ?_)
      rw [rowf_b b (by omega), rowf_b b (by omega), show 2 * u / 2 = u by omega, show (2 * u + 1) / 2 = u by omega, show 2 * u % 2 = 0 by omega, show (2 * u + 1) % 2 = 1 by omega]
      by_cases e : t = u
      · rw [if_pos e, if_pos e, if_pos e, if_pos rfl, if_neg (by omega)]; omega
      · rw [if_neg e, if_neg e, if_neg e]; omega
    rw [this, sf_unit, if_pos ht]
  · refine sf_congr _ _ (fun r _ hr => ?_)
    unfold mp
    by_cases e : cf b r = true
    · rw [if_pos e, if_pos e, rowf_r b (by omega) e]
    · rw [if_neg e, if_neg e, Int.zero_mul]
theorem model_sum (hs : fp (bt s) (rn b) = bN b) : msum b s = sf (fun t => my b s (2 * t) * bT b t) 0 (bN b) + sf (fun r => mp b s r * bI b r) 0 (bM b) := by
  have c : msum b s = sf (fun i => sgn (mD b s) * mN b s i * bnd b (gd (bt s) (rn b) i)) 0 (fp (bt s) (rn b)) := by
    rw [hs]; rfl
  rw [c, sf_fl (fun i k => sgn (mD b s) * mN b s i * bnd b k)]
  have c3 : sf (fun r => if bt s r = true then sgn (mD b s) * mN b s (fp (bt s) r) * bnd b r else 0) 0 (rn b) = sf (fun k => my b s k * bnd b k) 0 (rn b) := by
    refine sf_congr _ _ (fun k _ _ => ?_)
    unfold my
    by_cases h : bt s k = true
    · rw [if_pos h, if_pos h]
    · rw [if_neg h, if_neg h, Int.zero_mul]
  rw [c3, sf_rows]
  congr 1
  · refine sf_congr _ _ (fun t _ ht => ?_)
    unfold bnd
    rw [if_pos (by omega), if_pos (by omega), if_pos (by omega), if_neg (by omega), show 2 * t / 2 = t by omega]; omega
  · refine sf_congr _ _ (fun r _ hr => ?_)
    unfold mp
    by_cases e : cf b r = true
    · rw [if_pos e, if_pos e, bnd_r b (by omega) e]
    · rw [if_neg e, if_neg e, Int.zero_mul]
end PT

/-! corners and bases: each corner is a base's, each base is a corner's -/
def LK (b : Bk) (s p q : Nat) : Prop := fp (bt s) (rn b) = bN b ∧ (∀ t, t < bN b → ¬ (bt s (2 * t) = true ∧ bt s (2 * t + 1) = true)) ∧ (∀ t, t < bN b → bt q t = !(bt s (2 * t) || bt s (2 * t + 1))) ∧ (∀ r, r < bM b → bt p r = (cf b r && bt s (2 * bN b + fp (cf b) r)))
section LI
variable {b : Bk} {p q s : Nat}
theorem LK.q0 (h : LK b s p q) {t : Nat} (ht : t < bN b) (hq : bt q t = true) : bt s (2 * t) = false ∧ bt s (2 * t + 1) = false := by
  have := h.2.2.1 t ht
  rw [hq] at this
  cases h1 : bt s (2 * t) <;> cases h2 : bt s (2 * t + 1) <;> simp [h1, h2] at this ⊢
theorem LK.q1 (h : LK b s p q) {t : Nat} (ht : t < bN b) (hq : bt q t = false) : (bt s (2 * t) = true ∧ bt s (2 * t + 1) = false) ∨ (bt s (2 * t) = false ∧ bt s (2 * t + 1) = true) := by
  have := h.2.2.1 t ht
  have h0 := h.2.1 t ht
  rw [hq] at this
  cases h1 : bt s (2 * t) <;> cases h2 : bt s (2 * t + 1) <;> simp [h1, h2] at this h0 ⊢
theorem LK.cnt (h : LK b s p q) : ∀ n, n ≤ bN b → fp (bt s) (2 * n) + fp (bt q) n = n
  | 0, _ => rfl
  | n + 1, hn => by
    have ih := h.cnt n (by omega)
    rw [show 2 * (n + 1) = 2 * n + 1 + 1 by omega]
    rcases bcs (bt q) n with e | e
    · obtain ⟨e1, e2⟩ := h.q0 (by omega) e
      rw [fp_n e2, fp_n e1, fp_y e]; omega
    · rcases h.q1 (by omega) e with ⟨e1, e2⟩ | ⟨e1, e2⟩
      · rw [fp_n e2, fp_y e1, fp_n e]; omega
      · rw [fp_y e2, fp_n e1, fp_n e]; omega
theorem LK.rcnt (h : LK b s p q) : ∀ r, r ≤ bM b → fp (bt s) (2 * bN b + fp (cf b) r) = fp (bt s) (2 * bN b) + fp (bt p) r
  | 0, _ => rfl
  | r + 1, hr => by
    have ih := h.rcnt r (by omega)
    have hp := h.2.2.2 r (by omega)
    rcases bcs (cf b) r with e | e
    · rw [e, Bool.true_and] at hp
      rw [fp_y e, show 2 * bN b + (fp (cf b) r + 1) = (2 * bN b + fp (cf b) r) + 1 by omega]
      rcases bcs (bt s) (2 * bN b + fp (cf b) r) with e2 | e2
      · rw [fp_y e2, fp_y (hp.trans e2), ih]; omega
      · rw [fp_n e2, fp_n (hp.trans e2), ih]
    · rw [e, Bool.false_and] at hp
      rw [fp_n e, fp_n hp]; exact ih
theorem LK.kk (h : LK b s p q) : ckk b p = fp (bt q) (bN b) := by
  have h1 := h.cnt (bN b) (Nat.le_refl _)
  have h2 := h.rcnt (bM b) (Nat.le_refl _)
  have h3 := h.1
  unfold rn at h3
  unfold ckk
  omega
/-- columns that are left -/
def psi (b : Bk) (s : Nat) : Nat → Nat → Bool
  | 0 => fun _ => true
  | j + 1 => fun t => psi b s j t && decide (¬ t = mC b s j / 2)
theorem psi_iff : ∀ (j t : Nat), psi b s j t = true ↔ ∀ i, i < j → ¬ t = mC b s i / 2
  | 0, t => ⟨fun _ i hi => by omega, fun _ => rfl⟩
  | j + 1, t => by
    show (psi b s j t && decide (¬ t = mC b s j / 2)) = true ↔ _
    rw [Bool.and_eq_true, decide_eq_true_iff, psi_iff j t]
    constructor
    · rintro ⟨h1, h2⟩ i hi
      by_cases e : i = j
      · subst e; exact h2
      · exact h1 i (by omega)
    · intro h
      exact ⟨fun i hi => h i (by omega), h j (by omega)⟩
theorem fp_true : ∀ n, fp (fun _ => true) n = n
  | 0 => rfl
  | n + 1 => by rw [fp_y rfl, fp_true n]
theorem mC_in {j : Nat} (hj : j < fp (bt s) (2 * bN b)) : mC b s j < 2 * bN b ∧ bt s (mC b s j) = true ∧ fp (bt s) (mC b s j) = j := by
  obtain ⟨h1, h2, h3⟩ := gd_in hj
  have e : mC b s j = gd (bt s) (2 * bN b) j := by
    have := gd_at h2 (n := rn b) (by unfold rn; omega)
    rw [h3] at this
    exact this
  rw [e]; exact ⟨h1, h2, h3⟩
theorem psi_new (h : LK b s p q) {j : Nat} (hj : j < fp (bt s) (2 * bN b)) : psi b s j (mC b s j / 2) = true := by
  rw [psi_iff]
  intro i hi e
  obtain ⟨a1, a2, a3⟩ := mC_in (b := b) (s := s) (j := j) hj
  obtain ⟨c1, c2, c3⟩ := mC_in (b := b) (s := s) (j := i) (by omega)
  have hne : ¬ mC b s i = mC b s j := fun z => by rw [z] at c3; omega
  have h0 := h.2.1 (mC b s j / 2) (by omega)
  have : (mC b s i = 2 * (mC b s j / 2) ∧ mC b s j = 2 * (mC b s j / 2) + 1) ∨ (mC b s j = 2 * (mC b s j / 2) ∧ mC b s i = 2 * (mC b s j / 2) + 1) := by omega
  rcases this with ⟨z1, z2⟩ | ⟨z1, z2⟩
  · exact h0 ⟨by rw [← z1]; exact c2, by rw [← z2]; exact a2⟩
  · exact h0 ⟨by rw [← z1]; exact a2, by rw [← z2]; exact c2⟩
theorem psi_cnt (h : LK b s p q) : ∀ j, j ≤ fp (bt s) (2 * bN b) → fp (psi b s j) (bN b) + j = bN b
  | 0, _ => fp_true _
  | j + 1, hj => by
    have ih := psi_cnt h j (by omega)
    obtain ⟨a1, a2, a3⟩ := mC_in (b := b) (s := s) (j := j) (by omega)
    have hn := psi_new h (j := j) (by omega)
    have := fp_wo hn (bN b)
    rw [if_pos (by omega)] at this
    have hl := fp_lt hn (show mC b s j / 2 < bN b by omega)
    show fp (fun t => psi b s j t && decide (¬ t = mC b s j / 2)) (bN b) + (j + 1) = bN b
    omega
/-- what is left of the base when j of its bounds are gone -/
def Stg (b : Bk) (s j i c : Nat) : Int := rowf b (mC b s (j + i)) (gd (psi b s j) (bN b) c)
theorem stg_step (hB : BR b) (h : LK b s p q) {j : Nat} (hj : j < fp (bt s) (2 * bN b)) : jdt (bN b - j) (Stg b s j) ≠ 0 ↔ jdt (bN b - (j + 1)) (Stg b s (j + 1)) ≠ 0 := by
  have h4 := hB.1
  have hc := psi_cnt h j (by omega)
  obtain ⟨a1, a2, a3⟩ := mC_in (b := b) (s := s) (j := j) hj
  have hn := psi_new h hj
  have hu : mC b s j / 2 < bN b := by omega
  have hl := fp_lt hn hu
  have cN2 := h.cnt (bN b) (Nat.le_refl _)
  have e1 : bN b - j = (bN b - (j + 1)) + 1 := by omega
  rw [e1]
  have u := jdt_unit (n := bN b - (j + 1)) (A := Stg b s j) (p := fp (psi b s j) (mC b s j / 2)) (s := if mC b s j % 2 = 0 then 1 else -1) (by omega) (by omega) (fun t ht => ?_)
  · have e2 : jdt (bN b - (j + 1)) (fun i c => Stg b s j (i + 1) (if c < fp (psi b s j) (mC b s j / 2) then c else c + 1)) = jdt (bN b - (j + 1)) (Stg b s (j + 1)) := by
      refine jdt_congr (fun i c hi hc2 => ?_)
      show rowf b (mC b s (j + (i + 1))) (gd (psi b s j) (bN b) (if c < fp (psi b s j) (mC b s j / 2) then c else c + 1)) = rowf b (mC b s (j + 1 + i)) (gd (fun t => psi b s j t && decide (¬ t = mC b s j / 2)) (bN b) c)
      rw [gd_wo hn hu (by omega), show j + (i + 1) = j + 1 + i by omega]
    rw [e2] at u
    rw [u]
    constructor
    · intro z w; rw [w, Int.mul_zero] at z; exact z rfl
    · intro z w
      refine z (mul_z ?_ w)
      split <;> split <;> omega
  · show rowf b (mC b s (j + 0)) (gd (psi b s j) (bN b) t) = _
    rw [Nat.add_zero, rowf_b b a1]
    obtain ⟨g1, g2, g3⟩ := gd_in (φ := psi b s j) (n := bN b) (c := t) (by omega)
    by_cases e : t = fp (psi b s j) (mC b s j / 2)
    · rw [if_pos e, if_pos (by rw [e]; exact gd_at hn hu)]
    · rw [if_neg e, if_neg (fun z => e (by rw [← z]; exact g3.symm))]
theorem stg_all (hB : BR b) (h : LK b s p q) : ∀ j, j ≤ fp (bt s) (2 * bN b) → (mD b s ≠ 0 ↔ jdt (bN b - j) (Stg b s j) ≠ 0)
  | 0, _ => by
    have : mD b s = jdt (bN b - 0) (Stg b s 0) := by
      refine jdt_congr (fun i t hi ht => ?_)
      show rowf b (mC b s i) t = rowf b (mC b s (0 + i)) (gd (fun _ => true) (bN b) t)
      have := gd_at (φ := fun _ => true) (r := t) rfl (n := bN b) ht
      rw [fp_true] at this
      rw [this, Nat.zero_add]
    rw [this]
  | j + 1, hj => (stg_all hB h j (by omega)).trans (stg_step hB h (by omega))
theorem LK.nz (hB : BR b) (h : LK b s p q) : mD b s ≠ 0 ↔ cD b p q ≠ 0 := by
  have h1 := h.cnt (bN b) (Nat.le_refl _)
  have hk := h.kk
  rw [stg_all hB h _ (Nat.le_refl _)]
  have e1 : bN b - fp (bt s) (2 * bN b) = ckk b p := by omega
  have e2 : ∀ t, t < bN b → psi b s (fp (bt s) (2 * bN b)) t = bt q t := by
    intro t ht
    rcases bcs (bt q) t with e | e
    · rw [e, psi_iff]
      intro i hi z
      obtain ⟨a1, a2, a3⟩ := mC_in (b := b) (s := s) hi
      obtain ⟨q1, q2⟩ := h.q0 ht e
      have : mC b s i = 2 * t ∨ mC b s i = 2 * t + 1 := by omega
      rcases this with w | w
      · rw [w, q1] at a2; exact Bool.false_ne_true a2
      · rw [w, q2] at a2; exact Bool.false_ne_true a2
    · rw [e]
      cases hp : psi b s (fp (bt s) (2 * bN b)) t with
      | false => rfl
      | true =>
        rw [psi_iff] at hp
        rcases h.q1 ht e with ⟨q1, q2⟩ | ⟨q1, q2⟩
        · have g := gd_at q1 (n := rn b) (by unfold rn; omega)
          exact absurd (show t = mC b s (fp (bt s) (2 * t)) / 2 by unfold mC; rw [g]; omega) (hp _ (fp_lt q1 (by omega)))
        · have g := gd_at q2 (n := rn b) (by unfold rn; omega)
          exact absurd (show t = mC b s (fp (bt s) (2 * t + 1)) / 2 by unfold mC; rw [g]; omega) (hp _ (fp_lt q2 (by omega)))
  have e3 : jdt (bN b - fp (bt s) (2 * bN b)) (Stg b s (fp (bt s) (2 * bN b))) = cD b p q := by
    rw [e1]
    refine jdt_congr (fun i c hi hc => ?_)
    obtain ⟨g1, g2, g3⟩ := gd_in (φ := bt p) (n := bM b) (c := i) hi
    have hpr := h.2.2.2 _ g1
    rw [g2] at hpr
    have hcf : cf b (gd (bt p) (bM b) i) = true := by
      cases z : cf b (gd (bt p) (bM b) i) with
      | true => rfl
      | false => rw [z, Bool.false_and] at hpr; exact absurd hpr (fun w => Bool.false_ne_true w.symm)
    have hbs : bt s (2 * bN b + fp (cf b) (gd (bt p) (bM b) i)) = true := by
      rw [hcf, Bool.true_and] at hpr; exact hpr.symm
    have hrc := h.rcnt (gd (bt p) (bM b) i) (by omega)
    rw [g3] at hrc
    have hm : mC b s (fp (bt s) (2 * bN b) + i) = 2 * bN b + fp (cf b) (gd (bt p) (bM b) i) := by
      have := gd_at hbs (n := rn b) (by unfold rn; have := fp_lt hcf g1; omega)
      rw [hrc] at this
      exact this
    show rowf b (mC b s (fp (bt s) (2 * bN b) + i)) (gd (psi b s (fp (bt s) (2 * bN b))) (bN b) c) = bF b (gd (bt p) (bM b) i) (gd (bt q) (bN b) c)
    have hpc := psi_cnt h _ (Nat.le_refl _)
    rw [hm, rowf_r b g1 hcf, gd_congr e2 (by omega)]
  rw [e3]
theorem LK.my0 (h : LK b s p q) {t : Nat} (ht : t < bN b) (hq : bt q t = true) : my b s (2 * t) = 0 ∧ my b s (2 * t + 1) = 0 := by
  obtain ⟨e1, e2⟩ := h.q0 ht hq
  unfold my
  rw [e1, e2]; exact ⟨rfl, rfl⟩
theorem LK.my1 (h : LK b s p q) {t : Nat} (ht : t < bN b) : my b s (2 * t) = 0 ∨ my b s (2 * t + 1) = 0 := by
  have h0 := h.2.1 t ht
  unfold my
  cases h1 : bt s (2 * t) <;> cases h2 : bt s (2 * t + 1) <;> simp [h1, h2] at h0 ⊢
theorem LK.mp0 (h : LK b s p q) {r : Nat} (hr : r < bM b) (hp : bt p r = false) : mp b s r = 0 := by
  have := h.2.2.2 r hr
  rw [hp] at this
  unfold mp my
  cases h1 : cf b r <;> cases h2 : bt s (2 * bN b + fp (cf b) r) <;> simp [h1, h2] at this ⊢
/-- the prices are the same fractions -/
theorem LK.pr (hB : BR b) (h : LK b s p q) {r : Nat} (hr : r < bM b) : bel b p q * mp b s r = mbl b s * slo b p q r :=
  class_uniq hB h.kk (fun r hr hp => h.mp0 hr hp) (fun t ht hq => by
    have e := model_eq hB h.1 ht
    obtain ⟨z1, z2⟩ := h.my0 ht hq
    rw [z1, z2] at e
    omega) hr
theorem LK.be (hB : BR b) (h : LK b s p q) {t : Nat} (ht : t < bN b) : bel b p q * (my b s (2 * t) - my b s (2 * t + 1)) = mbl b s * bey b p q t := by
  have e := model_eq hB h.1 ht
  have e2 : bel b p q * sf (fun r => mp b s r * bF b r t) 0 (bM b) = mbl b s * sf (fun r => bF b r t * slo b p q r) 0 (bM b) := by
    rw [← sf_mul, ← sf_mul]
    refine sf_congr _ _ (fun r _ hr => ?_)
    have := h.pr hB (r := r) (by omega)
    rw [← Int.mul_assoc, this, Int.mul_assoc, Int.mul_comm (slo b p q r)]
  have e3 : my b s (2 * t) - my b s (2 * t + 1) = mbl b s * bW b t - sf (fun r => mp b s r * bF b r t) 0 (bM b) := by omega
  rw [e3, Int.mul_sub, e2]
  unfold bey
  rw [Int.mul_sub, Int.mul_left_comm, Int.mul_comm (bel b p q) (bW b t)]
theorem mulpos {a x : Int} (ha : 0 < a) (h : 0 ≤ a * x) : 0 ≤ x := by
  by_cases e : 0 ≤ x
  · exact e
  · have := Int.mul_neg_of_pos_of_neg ha (show x < 0 by omega)
    omega
/-- the bounds are the same fractions -/
theorem LK.sm (hB : BR b) (h : LK b s p q) (hd : cD b p q ≠ 0) (hy : ∀ k, k < rn b → 0 ≤ my b s k) : bel b p q * msum b s = mbl b s * topc b p q := by
  have hb0 : 0 < bel b p q := sgn_pos hd
  have hm0 : 0 < mbl b s := sgn_pos ((h.nz hB).2 hd)
  rw [model_sum h.1]
  unfold topc
  rw [Int.mul_add, Int.mul_add, ← sf_mul, ← sf_mul, ← sf_mul, ← sf_mul, Int.add_comm]
  congr 1
  · refine sf_congr _ _ (fun r _ hr => ?_)
    rw [← Int.mul_assoc, h.pr hB (by omega), Int.mul_assoc, Int.mul_comm (slo b p q r)]
  · refine sf_congr _ _ (fun t _ ht => ?_)
    have e := h.be hB (t := t) (by omega)
    have y1 := hy (2 * t) (by unfold rn; omega)
    have y2 := hy (2 * t + 1) (by unfold rn; omega)
    have key : bel b p q * my b s (2 * t) = mbl b s * max 0 (bey b p q t) := by
      rcases h.my1 (t := t) (by omega) with z | z
      · rw [z] at e ⊢
        have : 0 ≤ mbl b s * (- bey b p q t) := by
          rw [Int.mul_neg, ← e, show (0 : Int) - my b s (2 * t + 1) = -my b s (2 * t + 1) by omega, Int.mul_neg, Int.neg_neg]
          exact Int.mul_nonneg (by omega) y2
        have := mulpos hm0 this
        rw [show max 0 (bey b p q t) = 0 by omega, Int.mul_zero, Int.mul_zero]
      · rw [z, Int.sub_zero] at e
        have : 0 ≤ mbl b s * bey b p q t := by
          rw [← e]; exact Int.mul_nonneg (by omega) y1
        have := mulpos hm0 this
        rw [show max 0 (bey b p q t) = bey b p q t by omega]; exact e
    rw [← Int.mul_assoc, key, Int.mul_assoc, Int.mul_comm (max 0 (bey b p q t))]
theorem my_nn (hv : RV b s) (k : Nat) (hk : k < rn b) : 0 ≤ my b s k := by
  unfold my
  split
  · next h =>
    have := fp_lt h hk
    rw [hv.1] at this
    exact hv.2.2 _ this
  · exact Int.le_refl _
/-- a base's corner -/
theorem base_corner (hB : BR b) (hv : RV b s) : ∃ p q, p < 2 ^ bM b ∧ q < 2 ^ bN b ∧ VC b p q ∧ bel b p q * msum b s = mbl b s * topc b p q ∧ ∀ r, r < bM b → bel b p q * mp b s r = mbl b s * slo b p q r := by
  have h4 := hB.1
  obtain ⟨p, hp1, hp2⟩ := mask_ex (fun r => cf b r && bt s (2 * bN b + fp (cf b) r)) (bM b)
  obtain ⟨q, hq1, hq2⟩ := mask_ex (fun t => !(bt s (2 * t) || bt s (2 * t + 1))) (bN b)
  have nb : ∀ t, t < bN b → ¬ (bt s (2 * t) = true ∧ bt s (2 * t + 1) = true) := by
    rintro t ht ⟨z1, z2⟩
    -- two rows that are against each other
    have hi := fp_lt z1 (show 2 * t < rn b by unfold rn; omega)
    have hi2 := fp_lt z2 (show 2 * t + 1 < rn b by unfold rn; omega)
    have e1 : fp (bt s) (2 * t + 1) = fp (bt s) (2 * t) + 1 := fp_y z1
    rw [hv.1] at hi hi2
    have g1 : mC b s (fp (bt s) (2 * t)) = 2 * t := gd_at z1 (by unfold rn; omega)
    have g2 : mC b s (fp (bt s) (2 * t) + 1) = 2 * t + 1 := by rw [← e1]; exact gd_at z2 (by unfold rn; omega)
    have l := jdt_lin h4 (MA b s) (fun j => if fp (bt s) (2 * t) = j then 1 else if fp (bt s) (2 * t) + 1 = j then 1 else 0) hi
    have m : jdt (bN b) (rr (MA b s) (fp (bt s) (2 * t)) (fun u => sf (fun j => (if fp (bt s) (2 * t) = j then 1 else if fp (bt s) (2 * t) + 1 = j then 1 else 0) * MA b s j u) 0 (bN b))) = jdt (bN b) (rr (MA b s) (fp (bt s) (2 * t)) (fun u => 0 * bW b u)) := by
      refine jdt_congr (fun i u hi' hu => ?_)
      unfold rr
      by_cases ei : i = fp (bt s) (2 * t)
      · rw [if_pos ei, if_pos ei]
        show sf (fun j => (if fp (bt s) (2 * t) = j then 1 else if fp (bt s) (2 * t) + 1 = j then 1 else 0) * MA b s j u) 0 (bN b) = 0 * bW b u
        have e2 : sf (fun j => (if fp (bt s) (2 * t) = j then 1 else if fp (bt s) (2 * t) + 1 = j then 1 else 0) * MA b s j u) 0 (bN b) = sf (fun j => (if fp (bt s) (2 * t) = j then MA b s j u else 0) + (if fp (bt s) (2 * t) + 1 = j then MA b s j u else 0)) 0 (bN b) := by
          refine sf_congr _ _ (fun j _ _ => ?_)
          by_cases w1 : fp (bt s) (2 * t) = j
          · rw [if_pos w1, if_pos w1, if_neg (by omega), Int.one_mul, Int.add_zero]
          · by_cases w2 : fp (bt s) (2 * t) + 1 = j
            · rw [if_neg w1, if_pos w2, if_neg w1, if_pos w2, Int.one_mul, Int.zero_add]
            · rw [if_neg w1, if_neg w2, if_neg w1, if_neg w2, Int.zero_mul]; rfl
        rw [e2, sf_add, sf_unit, sf_unit, if_pos hi, if_pos (by omega), Int.zero_mul]
        unfold MA
        rw [g1, g2, rowf_b b (by omega), rowf_b b (by omega), show 2 * t / 2 = t by omega, show (2 * t + 1) / 2 = t by omega, show 2 * t % 2 = 0 by omega, show (2 * t + 1) % 2 = 1 by omega]
        by_cases w : u = t
        · rw [if_pos w, if_pos w]; rfl
        · rw [if_neg w, if_neg w]; rfl
      · rw [if_neg ei, if_neg ei]
    rw [m, jdt_hom h4 _ _ _ hi, if_pos rfl, Int.zero_mul, Int.one_mul] at l
    exact hv.2.1 l.symm
  have hL : LK b s p q := ⟨hv.1, nb, hq2, hp2⟩
  have hd := (hL.nz hB).1 hv.2.1
  have hb0 : 0 < bel b p q := sgn_pos hd
  have hm0 : 0 < mbl b s := sgn_pos hv.2.1
  refine ⟨p, q, hp1, hq1, ⟨fun r hr hpr => ?_, hL.kk, hd, fun c hc => ?_⟩, hL.sm hB hd (my_nn hv), fun r hr => hL.pr hB hr⟩
  · have := hp2 r hr
    rw [hpr] at this
    cases z : cf b r with
    | true => rfl
    | false => rw [z, Bool.false_and] at this; exact absurd this (fun w => Bool.false_ne_true w.symm)
  · obtain ⟨g1, g2, g3⟩ := gd_in (φ := bt p) (n := bM b) (c := c) hc
    have e := hL.pr hB g1
    have es : slo b p q (gd (bt p) (bM b) c) = sgn (cD b p q) * cN b p q c := by
      unfold slo
      rw [if_pos g2, g3]
    rw [← es]
    refine mulpos hm0 ?_
    rw [← e]
    refine Int.mul_nonneg (by omega) ?_
    unfold mp
    split
    · next z => exact my_nn hv _ (by unfold rn; have := fp_lt z g1; omega)
    · exact Int.le_refl _
/-- a corner's base -/
theorem corner_base (hB : BR b) (hv : VC b p q) : ∃ s, s < 2 ^ rn b ∧ RV b s ∧ bel b p q * msum b s = mbl b s * topc b p q ∧ ∀ r, r < bM b → bel b p q * mp b s r = mbl b s * slo b p q r := by
  obtain ⟨s, hs1, hs2⟩ := mask_ex (fun k => if k < 2 * bN b then (!bt q (k / 2)) && (decide (k % 2 = 1) == decide (bey b p q (k / 2) < 0)) else bt p (gd (cf b) (bM b) (k - 2 * bN b))) (rn b)
  have lo : ∀ t, t < bN b → bt s (2 * t) = ((!bt q t) && decide (0 ≤ bey b p q t)) ∧ bt s (2 * t + 1) = ((!bt q t) && decide (bey b p q t < 0)) := by
    intro t ht
    have h1 := hs2 (2 * t) (by unfold rn; omega)
    have h2 := hs2 (2 * t + 1) (by unfold rn; omega)
    rw [if_pos (by omega), show 2 * t / 2 = t by omega, show 2 * t % 2 = 0 by omega] at h1
    rw [if_pos (by omega), show (2 * t + 1) / 2 = t by omega, show (2 * t + 1) % 2 = 1 by omega] at h2
    rw [h1, h2]
    by_cases e : bey b p q t < 0
    · have e2 : ¬ 0 ≤ bey b p q t := by omega
      simp [e, e2]
    · have e2 : 0 ≤ bey b p q t := by omega
      simp [e, e2]
  have hi : ∀ r, r < bM b → cf b r = true → bt s (2 * bN b + fp (cf b) r) = bt p r := by
    intro r hr hc
    have := fp_lt hc hr
    rw [hs2 _ (by unfold rn; omega), if_neg (by omega), show 2 * bN b + fp (cf b) r - 2 * bN b = fp (cf b) r by omega, gd_at hc hr]
  have l1 : ∀ t, t < bN b → ¬ (bt s (2 * t) = true ∧ bt s (2 * t + 1) = true) := by
    rintro t ht ⟨z1, z2⟩
    rw [(lo t ht).1] at z1
    rw [(lo t ht).2] at z2
    simp at z1 z2
    omega
  have l2 : ∀ t, t < bN b → bt q t = !(bt s (2 * t) || bt s (2 * t + 1)) := by
    intro t ht
    rw [(lo t ht).1, (lo t ht).2]
    by_cases e : bey b p q t < 0
    · have e2 : ¬ 0 ≤ bey b p q t := by omega
      simp [e, e2]
    · have e2 : 0 ≤ bey b p q t := by omega
      simp [e, e2]
  have l3 : ∀ r, r < bM b → bt p r = (cf b r && bt s (2 * bN b + fp (cf b) r)) := by
    intro r hr
    rcases bcs (cf b) r with e | e
    · rw [e, Bool.true_and, hi r hr e]
    · rw [e, Bool.false_and]
      rcases bcs (bt p) r with z | z
      · have := hv.1 r hr z
        rw [e] at this; exact absurd this Bool.false_ne_true
      · exact z
  have cnt1 : ∀ n, n ≤ bN b → fp (bt s) (2 * n) + fp (bt q) n = n := by
    intro n
    induction n with
    | zero => intro _; rfl
    | succ n ih =>
      intro hn
      have ih := ih (by omega)
      have e := l2 n (by omega)
      have z := l1 n (by omega)
      rw [show 2 * (n + 1) = 2 * n + 1 + 1 by omega]
      rcases bcs (bt s) (2 * n) with e1 | e1 <;> rcases bcs (bt s) (2 * n + 1) with e2 | e2
      · exact absurd ⟨e1, e2⟩ z
      · rw [e1, e2] at e
        rw [fp_n e2, fp_y e1, fp_n e]; omega
      · rw [e1, e2] at e
        rw [fp_y e2, fp_n e1, fp_n e]; omega
      · rw [e1, e2] at e
        rw [fp_n e2, fp_n e1, fp_y e]; omega
  have cnt2 : ∀ r, r ≤ bM b → fp (bt s) (2 * bN b + fp (cf b) r) = fp (bt s) (2 * bN b) + fp (bt p) r := by
    intro r
    induction r with
    | zero => intro _; rfl
    | succ r ih =>
      intro hr
      have ih := ih (by omega)
      have hp := l3 r (by omega)
      rcases bcs (cf b) r with e | e
      · rw [e, Bool.true_and] at hp
        rw [fp_y e, show 2 * bN b + (fp (cf b) r + 1) = (2 * bN b + fp (cf b) r) + 1 by omega]
        rcases bcs (bt s) (2 * bN b + fp (cf b) r) with e2 | e2
        · rw [fp_y e2, fp_y (hp.trans e2), ih]; omega
        · rw [fp_n e2, fp_n (hp.trans e2), ih]
      · rw [e, Bool.false_and] at hp
        rw [fp_n e, fp_n hp]; exact ih
  have hn : fp (bt s) (rn b) = bN b := by
    have a := cnt1 (bN b) (Nat.le_refl _)
    have c := cnt2 (bM b) (Nat.le_refl _)
    have k := hv.2.1
    unfold ckk at k
    unfold rn
    omega
  have hL : LK b s p q := ⟨hn, l1, l2, l3⟩
  have hd := hv.2.2.1
  have hmd := (hL.nz hB).2 hd
  have hb0 : 0 < bel b p q := sgn_pos hd
  have hm0 : 0 < mbl b s := sgn_pos hmd
  have hslo : ∀ r, r < bM b → 0 ≤ slo b p q r := by
    intro r hr
    unfold slo
    split
    · next z => exact hv.2.2.2 _ (fp_lt z hr)
    · exact Int.le_refl _
  have hmp : ∀ r, r < bM b → 0 ≤ mp b s r := by
    intro r hr
    refine mulpos hb0 ?_
    rw [hL.pr hB hr]; exact Int.mul_nonneg (by omega) (hslo r hr)
  have hmy : ∀ k, k < rn b → bt s k = true → 0 ≤ my b s k := by
    intro k hk hbk
    by_cases h2 : k < 2 * bN b
    · have ht : k / 2 < bN b := by omega
      have e := hL.be hB ht
      have lo' := lo (k / 2) ht
      by_cases par : k % 2 = 0
      · have ek : k = 2 * (k / 2) := by omega
        rw [ek, lo'.1] at hbk
        have o1 : bt s (2 * (k / 2) + 1) = false := by
          rw [lo'.2]
          simp at hbk
          have : ¬ bey b p q (k / 2) < 0 := by omega
          simp [this]
        have z : my b s (2 * (k / 2) + 1) = 0 := by unfold my; rw [o1]; rfl
        rw [z, Int.sub_zero, ← ek] at e
        refine mulpos hb0 ?_
        rw [e]
        simp at hbk
        exact Int.mul_nonneg (by omega) hbk.2
      · have ek : k = 2 * (k / 2) + 1 := by omega
        rw [ek, lo'.2] at hbk
        have o1 : bt s (2 * (k / 2)) = false := by
          rw [lo'.1]
          simp at hbk
          have : ¬ 0 ≤ bey b p q (k / 2) := by omega
          simp [this]
        have z : my b s (2 * (k / 2)) = 0 := by unfold my; rw [o1]; rfl
        rw [z, ← ek] at e
        refine mulpos hb0 ?_
        have e2 : bel b p q * my b s k = mbl b s * (- bey b p q (k / 2)) := by
          rw [Int.mul_neg, ← e, show (0 : Int) - my b s k = -my b s k by omega, Int.mul_neg, Int.neg_neg]
        rw [e2]
        simp at hbk
        exact Int.mul_nonneg (by omega) (by omega)
    · have hc : k - 2 * bN b < fp (cf b) (bM b) := by unfold rn at hk; omega
      obtain ⟨g1, g2, g3⟩ := gd_in hc
      have := hmp _ g1
      unfold mp at this
      rw [if_pos g2, g3, show 2 * bN b + (k - 2 * bN b) = k by omega] at this
      exact this
  have hmy' : ∀ k, k < rn b → 0 ≤ my b s k := by
    intro k hk
    rcases bcs (bt s) k with z | z
    · exact hmy k hk z
    · unfold my; rw [z]; exact Int.le_refl _
  refine ⟨s, hs1, ⟨hn, hmd, fun i hi' => ?_⟩, hL.sm hB hd hmy', fun r hr => hL.pr hB hr⟩
  obtain ⟨g1, g2, g3⟩ := gd_in (φ := bt s) (n := rn b) (c := i) (by omega)
  have := hmy _ g1 g2
  unfold my at this
  rw [if_pos g2, g3] at this
  exact this
end LI

/-! the reference: a base tried -/
theorem rowf9 {b : Bk} (hB : BR b) (k t : Nat) : bdd (rowf b k t) 9 := by
  unfold rowf
  split
  · split
    · split <;> (unfold bdd; omega)
    · unfold bdd; omega
  · exact bF9 hB _ _
theorem bnd_in {b : Bk} (hB : BR b) {k : Nat} (hk : k < rn b) : 0 ≤ bnd b k ∧ bnd b k ≤ 999 := by
  unfold bnd
  split
  · have := hB.2.2.1 (k / 2) (by omega)
    split <;> omega
  · have hc : k - 2 * bN b < fp (cf b) (bM b) := by unfold rn at hk; omega
    obtain ⟨g1, g2, g3⟩ := gd_in hc
    have := hB.2.2.2.1 _ g1
    omega
theorem rul_in {b : Bk} (hB : BR b) {k : Nat} (hk : k < rn b) : i32 (rul b k) := by
  have h6 := hB.2.1
  unfold rul
  split
  · omega
  · have hc : k - 2 * bN b < fp (cf b) (bM b) := by unfold rn at hk; omega
    obtain ⟨g1, g2, g3⟩ := gd_in hc
    omega
theorem rn_le {b : Bk} (hB : BR b) : rn b ≤ 14 := by
  have := hB.1
  have := hB.2.1
  have := fp_le (cf b) (bM b)
  unfold rn
  omega
def yv (b : Bk) (s i : Nat) : Int := sgn (mD b s) * mN b s i
/-- the price of a row's rule, as far as it is seen -/
def prv (b : Bk) (s : Nat) (x : Int) : Nat → Int
  | 0 => 0
  | i + 1 => if rul b (mC b s i) = x then yv b s i else prv b s x i
def yfr (Y Y' : Nat → Nat → Int) : Prop := fr (fun a => ¬ (a = 27 ∨ a = 45)) Y Y' ∧ ∀ j, ¬ (25 ≤ j ∧ j ≤ 27) → Y' 27 j = Y 27 j
theorem yfr.trans {Y Y' Y'' : Nat → Nat → Int} (h : yfr Y Y') (h' : yfr Y' Y'') : yfr Y Y'' := ⟨h.1.trans h'.1, fun j hj => (h'.2 j hj).trans (h.2 j hj)⟩
theorem yfr.rf {Y : Nat → Nat → Int} : yfr Y Y := ⟨fr.rf, fun _ _ => rfl⟩
theorem yfr.of45 {Y Y' : Nat → Nat → Int} (h : y45 Y Y') : yfr Y Y' := ⟨h.mono (fun a ha => by omega), fun j _ => h 27 (by omega) j⟩
section PR
variable {d : Nat} {Z Y : Nat → Nat → Int} {S : Nat × (Nat → Int32)} {Q : Option Value → jj_Hp → Prop} {Ki : Int → jj_Hp → Prop} {b : Bk} {s : Nat} {x : Int}
theorem mD_b (hB : BR b) : bdd (mD b s) 157464 := jdt_9 hB.1 (fun i t _ _ => rowf9 hB _ t)
theorem mN_b (hB : BR b) (i : Nat) : bdd (mN b s i) 1732104 := jdt_w hB.1 (fun i t _ _ => rowf9 hB _ t) (fun t ht => ⟨(hB.2.2.1 t ht).1, (hB.2.2.1 t ht).2.1⟩)
theorem lX5_ip5 {v5 v6 v7 v8 : Value} (hB : BR b) (hs : s < 2 ^ rn b) (hn : Z 27 19 = ((rn b : Nat) : Int)) : ∀ (n k : Nat) (Z' : Nat → Nat → Int), k + n = rn b → fr (fun a => ¬ a = 44) Z Z' → (∀ i, i < fp (bt s) k → Z' 44 i = ((mC b s i : Nat) : Int)) → (∀ Z'' , fr (fun a => ¬ a = 44) Z Z'' → (∀ i, i < fp (bt s) (rn b) → Z'' 44 i = ((mC b s i : Nat) : Int)) → jj_Ex d mX5_isPriced 41 [.ref 27, iv (s : Int), iv x, iv ((fp (bt s) (rn b) : Nat) : Int), iv ((rn b : Nat) : Int), v5, v6, v7, v8] [] (jj_h Z'' Y S) Q) → jj_Ex d mX5_isPriced 5 [.ref 27, iv (s : Int), iv x, iv ((fp (bt s) k : Nat) : Int), iv (k : Int), v5, v6, v7, v8] [] (jj_h Z' Y S) Q := by
  have r14 := rn_le hB
  have p14 : 2 ^ rn b ≤ 2 ^ 14 := Nat.pow_le_pow_right (by omega) r14
  intro n
  induction n with
  | zero =>
    intro k Z' hk f h c
    have e := f 27 (by omega) 19
    refine bX5_isPriced_5 (by omega) (by omega) (fun _ => ?_) (fun z => by omega)
    rw [show k = rn b by omega] at h ⊢
    exact c Z' f h
  | succ n ih =>
    intro k Z' hk f h c
    have e := f 27 (by omega) 19
    have e1 : ((s : Int)).toNat = s := Int.toNat_natCast s
    have e2 : ((k : Int)).toNat = k := Int.toNat_natCast k
    have hd := Nat.div_le_self s (2 ^ k)
    have hle := fp_le (bt s) k
    refine bX5_isPriced_5 (by omega) (by omega) (fun z => by omega) (fun _ => bX5_isPriced_14 (by omega) (by omega) (by omega) (by rw [e1, e2]; generalize s / 2 ^ k = q at hd ⊢; omega) (by rw [e1, e2]; generalize s / 2 ^ k = q at hd ⊢; omega) (fun p => bX5_isPriced_35 ?_) (fun p => bX5_isPriced_24 (by omega) (by omega) ?_))
    · rw [e1, e2] at p
      have hb : bt s k = false := bt_0.2 (by generalize s / 2 ^ k = q at p ⊢; omega)
      have := ih (k + 1) Z' (by omega) f (fun i hi => h i (by rw [fp_n hb] at hi; exact hi)) c
      rw [fp_n hb] at this
      exact this
    · rw [e1, e2] at p
      have hb : bt s k = true := bt_1.2 (by generalize s / 2 ^ k = q at p ⊢; omega)
      rw [Int.toNat_natCast]
      have := ih (k + 1) (zu Z' 44 (fp (bt s) k) (k : Int)) (by omega) (fun a ha j => by rw [zu_ne ha]; exact f a ha j) (fun i hi => ?_) c
      · rw [fp_y hb] at this
        exact this
      · rw [fp_y hb] at hi
        by_cases ei : i = fp (bt s) k
        · subst ei
          rw [zu_at]
          unfold mC
          rw [gd_at hb (by omega)]
        · rw [zu_nk ei]; exact h i (by omega)
theorem lX5_ip100 {Y0 : Nat → Nat → Int} (hB : BR b) (hM : MB Z b) (hR : RS b Z (rn b)) (hx : i32 x) (hN : fp (bt s) (rn b) = bN b) (h44 : ∀ i, i < bN b → Z 44 i = ((mC b s i : Nat) : Int)) (hD : mD b s ≠ 0) (k1 : RV b s → ∀ Y', yfr Y0 Y' → Y' 27 27 = mbl b s → Y' 27 25 = msum b s → Y' 27 26 = prv b s x (bN b) → Q (some (iv 1)) (jj_h Z Y' S)) (k0 : ¬ RV b s → ∀ Y', yfr Y0 Y' → Q (some (iv 0)) (jj_h Z Y' S)) : ∀ (n i : Nat) (Y : Nat → Nat → Int) (v7 v8 : Value), i + n = bN b → yfr Y0 Y → Y 27 27 = mbl b s → Y 27 25 = sf (fun j => yv b s j * bnd b (mC b s j)) 0 i → Y 27 26 = prv b s x i → (∀ j, j < i → 0 ≤ yv b s j) → jj_Ex (d + 1) mX5_isPriced 100 [.ref 27, iv (s : Int), iv x, iv ((bN b : Nat) : Int), lv (mD b s), .null, iv (i : Int), v7, v8] [] (jj_h Z Y S) Q := by
  have h4 := hB.1
  have hDb := mD_b (s := s) hB
  unfold bdd at hDb
  have hmc : ∀ i, i < bN b → mC b s i < rn b := fun i hi => (gd_in (φ := bt s) (n := rn b) (c := i) (by omega)).1
  have r14 := rn_le hB
  intro n
  induction n with
  | zero =>
    intro i Y v7 v8 hi f e27 e25 e26 hnn
    have ei : i = bN b := by omega
    subst ei
    exact bX5_isPriced_100 (by omega) (by omega) (fun _ => bX5_isPriced_200 (k1 ⟨hN, hD, fun j hj => hnn j hj⟩ Y f e27 e25 e26)) (fun z => by omega)
  | succ n ih =>
    intro i Y v7 v8 hi f e27 e25 e26 hnn
    have hNb := mN_b (s := s) hB i
    have hyb := (mN_b (s := s) hB i).sg (mD b s)
    unfold bdd at hNb hyb
    have hmi := hmc i (by omega)
    have ei : ((i : Int)).toNat = i := Int.toNat_natCast i
    have e44 := h44 i (by omega)
    have er := (hR.2 _ hmi).2
    have hbi := bnd_in hB hmi
    have hri := rul_in hB hmi
    refine bX5_isPriced_100 (by omega) (by omega) (fun z => by omega) (fun _ => bX5_isPriced_106 (kX5_determinant (N := bN b) (A := rr (MA b s) i (bW b)) hM.1 h4 (by omega) (fun j hj => ?_) (fun j t hj ht => ?_) (fun j t hj ht => ?_) (fun Y1 f1 => ?_)))
    · rw [h44 j hj]; have := hmc j hj; omega
    · unfold rr
      split
      · exact ⟨(hB.2.2.1 t ht).1, (hB.2.2.1 t ht).2.1⟩
      · exact (rowf9 hB _ t).mono (by omega)
    · unfold rr
      by_cases e : j = i
      · rw [if_pos e, if_pos (by omega), (hM.2.2.1 t ht).1]
      · rw [if_neg e, if_neg (by omega), h44 j hj, Int.toNat_natCast]
        exact ((hR.2 _ (hmc j hj)).1 t ht).symm
    · have f01 : yfr Y0 Y1 := f.trans (yfr.of45 f1)
      have g27 : ∀ j, Y1 27 j = Y 27 j := fun j => f1 27 (by omega) j
      -- the price is not below 0: it is added
      have go : ∀ y : Int, y = yv b s i → 0 ≤ y → jj_Ex (d + 1) mX5_isPriced 140 [.ref 27, iv (s : Int), iv x, iv ((bN b : Nat) : Int), lv (mD b s), .null, iv (i : Int), lv y, .null] [] (jj_h Z Y1 S) Q := by
        intro y hy hy0
        have fin : ∀ Y2 v7 v8, yfr Y1 Y2 → Y2 27 27 = Y1 27 27 → Y2 27 25 = Y1 27 25 + y * bnd b (mC b s i) → Y2 27 26 = (if rul b (mC b s i) = x then y else Y1 27 26) → jj_Ex (d + 1) mX5_isPriced 100 [.ref 27, iv (s : Int), iv x, iv ((bN b : Nat) : Int), lv (mD b s), .null, iv ((i : Int) + 1), v7, v8] [] (jj_h Z Y2 S) Q := by
          intro Y2 v7 v8 f2 z27 z25 z26
          refine ih (i + 1) Y2 v7 v8 (by omega) (f01.trans f2) (by rw [z27, g27]; exact e27) ?_ ?_ (fun j hj => ?_)
          · rw [z25, g27, e25, sf_one, hy]
          · rw [z26, g27, e26, hy]; rfl
          · by_cases e : j = i
            · subst e; rw [← hy]; exact hy0
            · exact hnn j (by omega)
        refine bX5_isPriced_140 (by omega) (by omega) (by rw [ei, e44]; omega) (by rw [ei, e44]; omega) (by rw [ei, e44, Int.toNat_natCast, er.1]; omega) (by omega) (by omega) (by rw [ei, e44]; omega) (by rw [ei, e44]; omega) (by rw [ei, e44, Int.toNat_natCast, er.2]; exact hri) hx (fun p => bX5_isPriced_187 (fin _ _ _ ?_ ?_ ?_ ?_)) (fun p => bX5_isPriced_182 (fin _ _ _ ?_ ?_ ?_ ?_))
        all_goals rw [ei, e44, Int.toNat_natCast, er.2] at p
        · exact ⟨fun a ha j => by rw [zu_ne (by omega), zu_ne (by omega)], fun j hj => by rw [zu_nk (by omega), zu_nk (by omega)]⟩
        · rw [zu_nk (by omega), zu_nk (by omega)]
        · rw [zu_nk (by omega), zu_at, ei, e44, Int.toNat_natCast, er.1]
        · rw [zu_at, zu_nk (by omega), if_neg p]
        · exact ⟨fun a ha j => by rw [zu_ne (by omega), zu_ne (by omega)], fun j hj => by rw [zu_nk (by omega), zu_nk (by omega)]⟩
        · rw [zu_nk (by omega), zu_nk (by omega)]
        · rw [zu_nk (by omega), zu_at, ei, e44, Int.toNat_natCast, er.1]
        · rw [zu_at, if_pos p]
      have bad : yv b s i < 0 → Q (some (iv 0)) (jj_h Z Y1 S) := fun hneg => k0 (fun hv => by
        have := hv.2.2 i (by omega)
        unfold yv at hneg
        omega) Y1 f01
      show jj_Ex (d + 1) mX5_isPriced 112 [.ref 27, iv (s : Int), iv x, iv ((bN b : Nat) : Int), lv (mD b s), .null, iv (i : Int), v7, v8] [lv (mN b s i)] (jj_h Z Y1 S) Q
      refine bX5_isPriced_112 (by omega) (fun hd => ?_) (fun hd => ?_)
      · have ey : mN b s i = yv b s i := by unfold yv sgn; rw [if_neg (by omega), Int.one_mul]
        exact bX5_isPriced_127 (by omega) (fun hp => go _ ey hp) (fun hp => bX5_isPriced_138 (bad (by omega)))
      · have ey : -mN b s i = yv b s i := by unfold yv sgn; rw [if_pos (by omega), Int.neg_one_mul]
        exact bX5_isPriced_121 (by omega) (fun hp => go _ ey hp) (fun hp => bX5_isPriced_138 (bad (by omega)))
theorem kX5_isPriced (hB : BR b) (hM : MB Z b) (hR : RS b Z (rn b)) (hs : s < 2 ^ rn b) (hx : i32 x) (k1 : RV b s → ∀ Z' Y', fr (fun a => ¬ a = 44) Z Z' → yfr Y Y' → Y' 27 27 = mbl b s → Y' 27 25 = msum b s → Y' 27 26 = prv b s x (bN b) → Ki 1 (jj_h Z' Y' S)) (k0 : ¬ RV b s → ∀ Z' Y', fr (fun a => ¬ a = 44) Z Z' → yfr Y Y' → Ki 0 (jj_h Z' Y' S)) : jj_Ci (d + 1) mX5_isPriced [.ref 27, iv (s : Int), iv x] (jj_h Z Y S) Ki := by
  have h4 := hB.1
  have r14 := rn_le hB
  have hle := fp_le (bt s) (rn b)
  have hDb := mD_b (s := s) hB
  unfold bdd at hDb
  refine nX5_isPriced (bX5_isPriced_0 (lX5_ip5 hB hs hR.1 (rn b) 0 Z (by omega) fr.rf (fun i hi => by rw [fp_0] at hi; omega) (fun Z1 f1 h44 => ?_)))
  have hM1 : MB Z1 b := hM.fr (f1.mono (fun a ha => by unfold mbc at ha; omega)) (f1 27 (by omega) 0) (f1 27 (by omega) 3)
  have hR1 : RS b Z1 (rn b) := ⟨by rw [f1 27 (by omega)]; exact hR.1, fun k hk => by
    obtain ⟨a1, a2, a3⟩ := hR.2 k hk
    exact ⟨fun t ht => by rw [f1 41 (by omega)]; exact a1 t ht, by rw [f1 42 (by omega)]; exact a2, by rw [f1 43 (by omega)]; exact a3⟩⟩
  have m1 := hM1.1
  refine bX5_isPriced_41 (by omega) (by omega) (fun e => ?_) (fun e => bX5_isPriced_49 ⟨_, rfl, k0 (fun hv => by have := hv.1; omega) Z1 Y f1 yfr.rf⟩)
  have hN : fp (bt s) (rn b) = bN b := by omega
  rw [hN] at h44 ⊢
  have hmc : ∀ i, i < bN b → mC b s i < rn b := fun i hi => (gd_in (φ := bt s) (n := rn b) (c := i) (by omega)).1
  refine bX5_isPriced_51 (kX5_determinant (N := bN b) (A := MA b s) m1 h4 (by omega) (fun j hj => ?_) (fun j t hj ht => (rowf9 hB _ t).mono (by omega)) (fun j t hj ht => ?_) (fun Y1 g1 => ?_))
  · rw [h44 j hj]; have := hmc j hj; omega
  · rw [if_neg (by omega), h44 j hj, Int.toNat_natCast]
    exact ((hR1.2 _ (hmc j hj)).1 t ht).symm
  · show jj_Ex (d + 1) mX5_isPriced 57 _ [lv (mD b s)] (jj_h Z1 Y1 S) _
    refine bX5_isPriced_57 (by omega) (fun e0 => ?_) (fun e0 => bX5_isPriced_66 ⟨_, rfl, k0 (fun hv => hv.2.1 e0) Z1 Y1 f1 (yfr.of45 g1)⟩)
    have go : ∀ y : Int, y = mbl b s → jj_Ex (d + 1) mX5_isPriced 100 [.ref 27, iv (s : Int), iv x, iv ((bN b : Nat) : Int), lv (mD b s), .null, iv 0, .null, .null] [] (jj_h Z1 (zu (zu (zu Y1 27 27 y) 27 25 0) 27 26 0) S) (fun r h1 => ∃ x, r = some (iv x) ∧ Ki x h1) := by
      intro y hy
      refine lX5_ip100 (Y0 := Y) hB hM1 hR1 hx hN h44 e0 (fun hv Y2 f2 z1 z2 z3 => ⟨_, rfl, k1 hv Z1 Y2 f1 f2 z1 z2 z3⟩) (fun hv Y2 f2 => ⟨_, rfl, k0 hv Z1 Y2 f1 f2⟩) (bN b) 0 _ _ _ (by omega) ((yfr.of45 g1).trans ⟨fun a ha j => by rw [zu_ne (by omega), zu_ne (by omega), zu_ne (by omega)], fun j hj => by rw [zu_nk (by omega), zu_nk (by omega), zu_nk (by omega)]⟩) ?_ ?_ ?_ (fun j hj => by omega)
      · rw [zu_nk (by omega), zu_nk (by omega), zu_at, hy]
      · rw [zu_nk (by omega), zu_at]; rfl
      · rw [zu_at]; rfl
    refine bX5_isPriced_68 (by omega) (fun hd => bX5_isPriced_82 (go _ ?_)) (fun hd => bX5_isPriced_76 (go _ ?_))
    · unfold mbl sgn; rw [if_neg (by omega), Int.one_mul]
    · unfold mbl sgn; rw [if_pos (by omega), Int.neg_one_mul]
end PR

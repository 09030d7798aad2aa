/-! the class's corners: equations -/
theorem jd3_r {A : Nat → Nat → Int} {i j k : Nat} {r1 r2 r3 : Int} {x y z : Nat} (h1 : ∀ t, t < 4 → bdd (A i t) r1) (h2 : ∀ t, t < 4 → bdd (A j t) r2) (h3 : ∀ t, t < 4 → bdd (A k t) r3) (hx : x < 4) (hy : y < 4) (hz : z < 4) : bdd (jd3 (A i x) (A i y) (A i z) (A j x) (A j y) (A j z) (A k x) (A k y) (A k z)) (r1 * (r2 * r3 + r2 * r3) + r1 * (r2 * r3 + r2 * r3) + r1 * (r2 * r3 + r2 * r3)) :=
  jd3_b (h1 x hx) (h1 y hy) (h1 z hz) (h2 x hx) (h2 y hy) (h2 z hz) (h3 x hx) (h3 y hy) (h3 z hz)
/-- a determinant whose rows are bounded, all but one by 9 -/
theorem jdt_rows {n : Nat} (hn : n ≤ 4) {A : Nat → Nat → Int} {R : Nat → Int} (h : ∀ i t, i < n → t < n → bdd (A i t) (R i)) (m : Nat) (hR : ∀ i, R i = if i = m then 99 else 9) : bdd (jdt n A) 1732104 := by
  rcases le4 hn with rfl | rfl | rfl | rfl | rfl
  · show bdd 1 1732104; unfold bdd; omega
  · refine (h 0 0 (by omega) (by omega)).mono ?_
    rw [hR]; split <;> omega
  · refine (jd2_b (h 0 0 (by omega) (by omega)) (h 0 1 (by omega) (by omega)) (h 1 0 (by omega) (by omega)) (h 1 1 (by omega) (by omega))).mono ?_
    rw [hR 0, hR 1]
    by_cases e0 : 0 = m <;> by_cases e1 : 1 = m <;> simp [e0, e1]
  · refine (jd3_b (h 0 0 (by omega) (by omega)) (h 0 1 (by omega) (by omega)) (h 0 2 (by omega) (by omega)) (h 1 0 (by omega) (by omega)) (h 1 1 (by omega) (by omega)) (h 1 2 (by omega) (by omega)) (h 2 0 (by omega) (by omega)) (h 2 1 (by omega) (by omega)) (h 2 2 (by omega) (by omega))).mono ?_
    rw [hR 0, hR 1, hR 2]
    by_cases e0 : 0 = m
    · subst e0; simp
    · by_cases e1 : 1 = m
      · subst e1; simp
      · by_cases e2 : 2 = m
        · subst e2; simp
        · simp [e0, e1, e2]
  · have q : ∀ x y z : Nat, x < 4 → y < 4 → z < 4 → bdd (jd3 (A 1 x) (A 1 y) (A 1 z) (A 2 x) (A 2 y) (A 2 z) (A 3 x) (A 3 y) (A 3 z)) (R 1 * (R 2 * R 3 + R 2 * R 3) + R 1 * (R 2 * R 3 + R 2 * R 3) + R 1 * (R 2 * R 3 + R 2 * R 3)) := fun x y z hx hy hz => jd3_r (fun t ht => h 1 t (by omega) ht) (fun t ht => h 2 t (by omega) ht) (fun t ht => h 3 t (by omega) ht) hx hy hz
    refine (jd4_b (h 0 0 (by omega) (by omega)) (h 0 1 (by omega) (by omega)) (h 0 2 (by omega) (by omega)) (h 0 3 (by omega) (by omega)) (q 1 2 3 (by omega) (by omega) (by omega)) (q 0 2 3 (by omega) (by omega) (by omega)) (q 0 1 3 (by omega) (by omega) (by omega)) (q 0 1 2 (by omega) (by omega) (by omega))).mono ?_
    rw [hR 0, hR 1, hR 2, hR 3]
    by_cases e0 : 0 = m
    · subst e0; simp
    · by_cases e1 : 1 = m
      · subst e1; simp
      · by_cases e2 : 2 = m
        · subst e2; simp
        · by_cases e3 : 3 = m
          · subst e3; simp
          · simp [e0, e1, e2, e3]
theorem jdt_9 {n : Nat} (hn : n ≤ 4) {A : Nat → Nat → Int} (h : ∀ i t, i < n → t < n → bdd (A i t) 9) : bdd (jdt n A) 157464 := by
  rcases le4 hn with rfl | rfl | rfl | rfl | rfl
  · show bdd 1 157464; unfold bdd; omega
  · exact (h 0 0 (by omega) (by omega)).mono (by omega)
  · exact (jd2_b (h 0 0 (by omega) (by omega)) (h 0 1 (by omega) (by omega)) (h 1 0 (by omega) (by omega)) (h 1 1 (by omega) (by omega))).mono (by omega)
  · exact (jd3_b (h 0 0 (by omega) (by omega)) (h 0 1 (by omega) (by omega)) (h 0 2 (by omega) (by omega)) (h 1 0 (by omega) (by omega)) (h 1 1 (by omega) (by omega)) (h 1 2 (by omega) (by omega)) (h 2 0 (by omega) (by omega)) (h 2 1 (by omega) (by omega)) (h 2 2 (by omega) (by omega))).mono (by omega)
  · have q : ∀ x y z : Nat, x < 4 → y < 4 → z < 4 → bdd (jd3 (A 1 x) (A 1 y) (A 1 z) (A 2 x) (A 2 y) (A 2 z) (A 3 x) (A 3 y) (A 3 z)) 4374 := fun x y z hx hy hz => (jd3_r (r1 := 9) (r2 := 9) (r3 := 9) (fun t ht => h 1 t (by omega) ht) (fun t ht => h 2 t (by omega) ht) (fun t ht => h 3 t (by omega) ht) hx hy hz).mono (by omega)
    exact (jd4_b (h 0 0 (by omega) (by omega)) (h 0 1 (by omega) (by omega)) (h 0 2 (by omega) (by omega)) (h 0 3 (by omega) (by omega)) (q 1 2 3 (by omega) (by omega) (by omega)) (q 0 2 3 (by omega) (by omega) (by omega)) (q 0 1 3 (by omega) (by omega) (by omega)) (q 0 1 2 (by omega) (by omega) (by omega))).mono (by omega)
theorem jdt_w {n : Nat} (hn : n ≤ 4) {A : Nat → Nat → Int} {w : Nat → Int} {m : Nat} (h : ∀ i t, i < n → t < n → bdd (A i t) 9) (hw : ∀ t, t < n → bdd (w t) 99) : bdd (jdt n (rr A m w)) 1732104 := by
  refine jdt_rows (R := fun i => if i = m then 99 else 9) hn (fun i t hi ht => ?_) m (fun _ => rfl)
  unfold rr
  by_cases e : i = m
  · rw [if_pos e, if_pos e]; exact hw t ht
  · rw [if_neg e, if_neg e]; exact h i t hi ht
theorem bt_ge {m n k : Nat} (hm : m < 2 ^ n) (hk : n ≤ k) : bt m k = false := by
  rw [bt_0, Nat.div_eq_of_lt (Nat.lt_of_lt_of_le hm (Nat.pow_le_pow_right (by omega) hk))]
theorem bF9 {b : Bk} (hB : BR b) (r t : Nat) : bdd (bF b r t) 9 := by
  by_cases h : r < bM b ∧ t < bN b
  · exact hB.2.2.2.2.1 r t h.1 h.2
  · rw [hB.2.2.2.2.2.1 r t (by omega)]; unfold bdd; omega
section CO
variable {d : Nat} {Z Y : Nat → Nat → Int} {S : Nat × (Nat → Int32)} {Q : Option Value → jj_Hp → Prop} {K : jj_Hp → Prop} {Ki : Int → jj_Hp → Prop} {b : Bk} {p q : Nat}
theorem CA9 (hB : BR b) (c i : Nat) : bdd (CA b p q c i) 9 := bF9 hB _ _
theorem cdu99 (hB : BR b) {i : Nat} (hi : i < fp (bt q) (bN b)) : bdd (cdu b q i) 99 := by
  obtain ⟨g1, g2, g3⟩ := gd_in hi
  have := hB.2.2.1 _ g1
  exact ⟨this.1, this.2.1⟩
theorem kX0_counts {r : Nat} (hB : BR b) (hX : XB Z b) (hr : r < bM b) (k1 : cf b r = true → Ki 1 (jj_h Z Y S)) (k0 : cf b r = false → Ki 0 (jj_h Z Y S)) : jj_Ci d mX0_countsForShares [.ref 1, iv (r : Int)] (jj_h Z Y S) Ki := by
  have h6 := hB.2.1
  have e2 : ((r : Int)).toNat = r := Int.toNat_natCast r
  obtain ⟨x1, x2, x3, x4⟩ := hX.2.2.2.1 r hr
  obtain ⟨a1, a2, a3, a4, a5, a6⟩ := hB.2.2.2.1 r hr
  refine nX0_countsForShares (bX0_countsForShares_0 (by omega) (by omega) (by rw [e2]; omega) (fun e => bX0_countsForShares_23 ⟨_, rfl, k0 ?_⟩) (fun e => bX0_countsForShares_9 (by omega) (by omega) (by rw [e2]; omega) (fun e3 => bX0_countsForShares_23 ⟨_, rfl, k0 ?_⟩) (fun e3 => bX0_countsForShares_19 ⟨_, rfl, k1 ?_⟩)))
  · rw [e2] at e; unfold cf; exact decide_eq_false (by omega)
  · rw [e2] at e e3; unfold cf; exact decide_eq_false (by omega)
  · rw [e2] at e e3; unfold cf; exact decide_eq_true (by omega)
theorem lX1_allCount (hB : BR b) (hX : XB Z b) (hp : p < 64) : ∀ (n r : Nat), r + n = bM b → (∀ r', r' < r → bt p r' = true → cf b r' = true) → ((∀ r', r' < bM b → bt p r' = true → cf b r' = true) → Q (some (iv 1)) (jj_h Z Y S)) → ((∃ r', r' < bM b ∧ bt p r' = true ∧ cf b r' = false) → Q (some (iv 0)) (jj_h Z Y S)) → jj_Ex (d + 1) mX1_allCount 2 [.ref 1, iv (p : Int), iv (r : Int)] [] (jj_h Z Y S) Q := by
  have h6 := hB.2.1
  have x2 := hX.2.1
  intro n
  induction n with
  | zero =>
    intro r hr h k1 k0
    exact bX1_allCount_2 (by omega) (by omega) (fun _ => bX1_allCount_34 (k1 (fun r' hr' => h r' (by omega)))) (fun z => by omega)
  | succ n ih =>
    intro r hr h k1 k0
    have nx : (bt p r = true → cf b r = true) → jj_Ex (d + 1) mX1_allCount 28 [.ref 1, iv (p : Int), iv (r : Int)] [] (jj_h Z Y S) Q := fun hc => bX1_allCount_28 (ih (r + 1) (by omega) (fun r' hr' hb => by
      by_cases e : r' = r
      · subst e; exact hc hb
      · exact h r' (by omega) hb) k1 k0)
    refine bX1_allCount_2 (by omega) (by omega) (fun z => by omega) (fun _ => bX1_allCount_10 (kX1_has (by omega) (by omega) (fun hb => bX1_allCount_15 (by omega) (fun z => by omega) (fun _ => bX1_allCount_18 (kX0_counts hB hX (by omega) (fun hc => bX1_allCount_23 (by omega) (fun _ => nx (fun _ => hc)) (fun z => by omega)) (fun hc => bX1_allCount_23 (by omega) (fun z => absurd rfl z) (fun _ => bX1_allCount_26 (k0 ⟨r, by omega, bt_1.2 hb, hc⟩)))))) (fun hb => bX1_allCount_15 (by omega) (fun _ => nx (fun z => ?_)) (fun z => absurd rfl z))))
    rw [bt_0.2 hb] at z; exact absurd z Bool.false_ne_true
theorem kX1_allCount (hB : BR b) (hX : XB Z b) (hp : p < 64) (k1 : (∀ r', r' < bM b → bt p r' = true → cf b r' = true) → Ki 1 (jj_h Z Y S)) (k0 : (∃ r', r' < bM b ∧ bt p r' = true ∧ cf b r' = false) → Ki 0 (jj_h Z Y S)) : jj_Ci (d + 1) mX1_allCount [.ref 1, iv (p : Int)] (jj_h Z Y S) Ki :=
  nX1_allCount (bX1_allCount_0 (lX1_allCount hB hX hp (bM b) 0 (by omega) (fun r' hr' => by omega) (fun h => ⟨_, rfl, k1 h⟩) (fun h => ⟨_, rfl, k0 h⟩)))
def y2425 (Y Y' : Nat → Nat → Int) : Prop := fr (fun a => ¬ (a = 24 ∨ a = 25)) Y Y'
theorem lX1_we45 {t : Nat} {Y0 : Nat → Nat → Int} (hB : BR b) (hX : XB Z b) (hp : p < 64) (h4 : fp (bt p) (bM b) ≤ 4) (ht : t < bN b) (hi : fp (bt q) t < 4) : ∀ (n r : Nat) (Y : Nat → Nat → Int), r + n = bM b → y2425 Y0 Y → (∀ Y' c, y2425 Y0 Y' → (∀ j, Y' 25 j = Y 25 j) → (∀ j, ¬ j / 4 = fp (bt q) t → Y' 24 j = Y 24 j) → (∀ c, c < fp (bt p) r → Y' 24 (fp (bt q) t * 4 + c) = Y 24 (fp (bt q) t * 4 + c)) → (∀ c, fp (bt p) r ≤ c → c < fp (bt p) (bM b) → Y' 24 (fp (bt q) t * 4 + c) = bF b (gd (bt p) (bM b) c) t) → jj_Ex (d + 1) mX1_writeEquations 97 [.ref 20, .ref 1, iv (p : Int), iv (q : Int), iv ((fp (bt q) t : Nat) : Int), iv (t : Int), iv c, iv ((bM b : Nat) : Int)] [] (jj_h Z Y' S) Q) → jj_Ex (d + 1) mX1_writeEquations 45 [.ref 20, .ref 1, iv (p : Int), iv (q : Int), iv ((fp (bt q) t : Nat) : Int), iv (t : Int), iv ((fp (bt p) r : Nat) : Int), iv (r : Int)] [] (jj_h Z Y S) Q := by
  have h6 := hB.2.1
  have hN := hB.1
  have x2 := hX.2.1
  intro n
  induction n with
  | zero =>
    intro r Y hr f c
    refine bX1_writeEquations_45 (by omega) (by omega) (fun _ => ?_) (fun z => by omega)
    have := c Y ((fp (bt p) r : Nat) : Int) f (fun _ => rfl) (fun _ _ => rfl) (fun _ _ => rfl) (fun c h1 h2 => by rw [show bM b = r by omega] at h2; omega)
    rw [show bM b = r by omega] at this
    exact this
  | succ n ih =>
    intro r Y hr f c
    have e9 := hX.2.2.2.2 r t (by omega) (by omega)
    have f9 := bF9 hB r t
    unfold bdd at f9
    have e1 : ((r : Int) * 4 + (t : Int)).toNat = r * 4 + t := by omega
    refine bX1_writeEquations_45 (by omega) (by omega) (fun z => by omega) (fun _ => bX1_writeEquations_54 (kX1_has (by omega) (by omega) (fun hb => bX1_writeEquations_60 (by omega) (fun z => by omega) (fun _ => ?_)) (fun hb => bX1_writeEquations_60 (by omega) (fun _ => bX1_writeEquations_91 ?_) (fun z => absurd rfl z))))
    · have hbt := bt_1.2 hb
      have hl := fp_lt hbt (show r < bM b by omega)
      have e2 : (((fp (bt q) t : Nat) : Int) * 4 + ((fp (bt p) r : Nat) : Int)).toNat = fp (bt q) t * 4 + fp (bt p) r := by omega
      refine bX1_writeEquations_63 (by omega) (by omega) (by rw [e1, e9]; omega) (by omega) (by omega) ?_
      rw [e1, e2, e9, show ((fp (bt p) r : Nat) : Int) + 1 = ((fp (bt p) (r + 1) : Nat) : Int) by rw [fp_y hbt]; rfl]
      refine ih (r + 1) _ (by omega) (fun a ha j => by rw [zu_ne (by omega)]; exact f a ha j) (fun Y' c' f' g1 g2 g3 g4 => c Y' c' f' (fun j => by rw [g1, zu_ne (by omega)]) (fun j hj => by rw [g2 j hj, zu_nk (by omega)]) (fun c hc => ?_) (fun c h1 h2 => ?_))
      · rw [g3 c (by rw [fp_y hbt]; omega), zu_nk (by omega)]
      · by_cases e : c = fp (bt p) r
        · subst e
          rw [g3 _ (by rw [fp_y hbt]; omega), zu_at, gd_at hbt (by omega)]
        · exact g4 c (by rw [fp_y hbt]; omega) h2
    · have hbt := bt_0.2 hb
      have efp : fp (bt p) (r + 1) = fp (bt p) r := fp_n hbt
      have := ih (r + 1) Y (by omega) f (fun Y' c' f' g1 g2 g3 g4 => c Y' c' f' g1 g2 (fun c hc => g3 c (by omega)) (fun c h1 h2 => g4 c (by omega) h2))
      rw [efp] at this
      exact this
theorem lX1_we6 {Y0 : Nat → Nat → Int} (hB : BR b) (hX : XB Z b) (hp : p < 64) (hq : q < 16) (h4 : fp (bt p) (bM b) ≤ 4) : ∀ (n t : Nat) (Y : Nat → Nat → Int) (v6 v7 : Value), t + n = bN b → y2425 Y0 Y → (∀ i, i < fp (bt q) t → Y 25 i = bW b (gd (bt q) (bN b) i) ∧ ∀ c, c < fp (bt p) (bM b) → Y 24 (i * 4 + c) = bF b (gd (bt p) (bM b) c) (gd (bt q) (bN b) i)) → (∀ Y', y2425 Y0 Y' → (∀ i, i < fp (bt q) (bN b) → Y' 25 i = bW b (gd (bt q) (bN b) i) ∧ ∀ c, c < fp (bt p) (bM b) → Y' 24 (i * 4 + c) = bF b (gd (bt p) (bM b) c) (gd (bt q) (bN b) i)) → Q none (jj_h Z Y' S)) → jj_Ex (d + 1) mX1_writeEquations 6 [.ref 20, .ref 1, iv (p : Int), iv (q : Int), iv ((fp (bt q) t : Nat) : Int), iv (t : Int), v6, v7] [] (jj_h Z Y S) Q := by
  have h6 := hB.2.1
  have hN := hB.1
  have x1 := hX.1
  intro n
  induction n with
  | zero =>
    intro t Y v6 v7 ht f h c
    refine bX1_writeEquations_6 (by omega) (by omega) (fun _ => bX1_writeEquations_106 (c Y f ?_)) (fun z => by omega)
    rw [show bN b = t by omega] at h ⊢
    exact h
  | succ n ih =>
    intro t Y v6 v7 ht f h c
    have hle := fp_le (bt q) t
    have ew := (hX.2.2.1 t (by omega)).1
    have hW := hB.2.2.1 t (by omega)
    have e3 : ((t : Int)).toNat = t := Int.toNat_natCast t
    refine bX1_writeEquations_6 (by omega) (by omega) (fun z => by omega) (fun _ => bX1_writeEquations_15 (kX1_has (by omega) (by omega) (fun hb => bX1_writeEquations_21 (by omega) (fun z => by omega) (fun _ => ?_)) (fun hb => bX1_writeEquations_21 (by omega) (fun _ => bX1_writeEquations_100 ?_) (fun z => absurd rfl z))))
    · have hbt := bt_1.2 hb
      refine bX1_writeEquations_24 (by omega) (by omega) (by rw [e3]; omega) (by omega) (by omega) ?_
      rw [e3, ew, Int.toNat_natCast]
      refine lX1_we45 (Y0 := Y0) hB hX hp h4 (by omega) (by omega) (bM b) 0 _ (by omega) (fun a ha j => by rw [zu_ne (by omega)]; exact f a ha j) (fun Y' c' f' g1 g2 g3 g4 => bX1_writeEquations_97 ?_)
      rw [show ((fp (bt q) t : Nat) : Int) + 1 = ((fp (bt q) (t + 1) : Nat) : Int) by rw [fp_y hbt]; rfl]
      refine ih (t + 1) Y' _ _ (by omega) f' (fun i hi => ?_) c
      rw [fp_y hbt] at hi
      by_cases e : i = fp (bt q) t
      · subst e
        rw [g1, zu_at, gd_at hbt (by omega)]
        exact ⟨rfl, fun c hc => g4 c (by rw [fp_0]; omega) hc⟩
      · rw [g1, zu_nk e]
        obtain ⟨a1, a2⟩ := h i (by omega)
        refine ⟨a1, fun c hc => ?_⟩
        rw [g2 _ (by omega), zu_ne (by omega)]; exact a2 c hc
    · have hbt := bt_0.2 hb
      have efp : fp (bt q) (t + 1) = fp (bt q) t := fp_n hbt
      have := ih (t + 1) Y v6 v7 (by omega) f (fun i hi => h i (by omega)) c
      rw [efp] at this
      exact this
theorem kX1_writeEquations (hB : BR b) (hX : XB Z b) (hp : p < 64) (hq : q < 16) (h4 : fp (bt p) (bM b) ≤ 4) (k : ∀ Y', y2425 Y Y' → (∀ i, i < fp (bt q) (bN b) → Y' 25 i = cdu b q i) → (∀ i c, i < fp (bt q) (bN b) → c < fp (bt p) (bM b) → Y' 24 (i * 4 + c) = CA b p q c i) → K (jj_h Z Y' S)) : jj_Cv (d + 1) mX1_writeEquations [.ref 20, .ref 1, iv (p : Int), iv (q : Int)] (jj_h Z Y S) K :=
  nX1_writeEquations (bX1_writeEquations_0 (lX1_we6 (Y0 := Y) hB hX hp hq h4 (bN b) 0 Y _ _ (by omega) fr.rf (fun i hi => by rw [fp_0] at hi; omega) (fun Y' f h => ⟨rfl, k Y' f (fun i hi => (h i hi).1) (fun i c hi hc => (h i hi).2 c hc)⟩)))
/-- a column and the dues, one in the other's place -/
def swd (Y : Nat → Nat → Int) (c w : Nat) : Nat → Nat → Int := fun a j => if a = 24 ∧ j % 4 = c ∧ j / 4 < w then Y 25 (j / 4) else if a = 25 ∧ j < w then Y 24 (j * 4 + c) else Y a j
theorem swd_swd (Y : Nat → Nat → Int) {c w : Nat} (hc : c < 4) : swd (swd Y c w) c w = Y := by
  funext a j
  unfold swd
  by_cases h1 : a = 24 ∧ j % 4 = c ∧ j / 4 < w
  · rw [if_pos h1, if_neg (by omega), if_pos (by omega), show j / 4 * 4 + c = j by omega, h1.1]
  · rw [if_neg h1]
    by_cases h2 : a = 25 ∧ j < w
    · rw [if_pos h2, if_pos (by omega), show (j * 4 + c) / 4 = j by omega, h2.1]
    · rw [if_neg h2, if_neg h1, if_neg h2]
theorem swd_0 (Y : Nat → Nat → Int) (c : Nat) : swd Y c 0 = Y := by
  funext a j
  unfold swd
  rw [if_neg (by omega), if_neg (by omega)]
theorem swd_s (Y : Nat → Nat → Int) {c : Nat} (hc : c < 4) (w : Nat) : zu (zu (swd Y c w) 24 (w * 4 + c) (swd Y c w 25 w)) 25 w (swd Y c w 24 (w * 4 + c)) = swd Y c (w + 1) := by
  have e1 : swd Y c w 25 w = Y 25 w := by unfold swd; rw [if_neg (by omega), if_neg (by omega)]
  have e2 : swd Y c w 24 (w * 4 + c) = Y 24 (w * 4 + c) := by unfold swd; rw [if_neg (by omega), if_neg (by omega)]
  rw [e1, e2]
  funext a j
  by_cases h1 : a = 25 ∧ j = w
  · obtain ⟨rfl, rfl⟩ := h1
    rw [zu_at]; unfold swd; rw [if_neg (by omega), if_pos (by omega)]
  · rw [show zu (zu (swd Y c w) 24 (w * 4 + c) (Y 25 w)) 25 w (Y 24 (w * 4 + c)) a j = zu (swd Y c w) 24 (w * 4 + c) (Y 25 w) a j from if_neg h1]
    by_cases h2 : a = 24 ∧ j = w * 4 + c
    · obtain ⟨rfl, rfl⟩ := h2
      rw [zu_at]; unfold swd; rw [if_pos (by omega), show (w * 4 + c) / 4 = w by omega]
    · rw [show zu (swd Y c w) 24 (w * 4 + c) (Y 25 w) a j = swd Y c w a j from if_neg h2]
      unfold swd
      by_cases h3 : a = 24 ∧ j % 4 = c ∧ j / 4 < w
      · rw [if_pos h3, if_pos (by omega)]
      · rw [if_neg h3]
        by_cases h4 : a = 25 ∧ j < w
        · rw [if_pos h4, if_neg (by omega), if_pos (by omega)]
        · rw [if_neg h4, if_neg (by omega), if_neg (by omega)]
theorem lX1_swapDues {c w : Nat} (hc : c < 4) (hw : w ≤ 4) : ∀ (n r : Nat) (v4 v5 v6 : Value), r + n = w → Q none (jj_h Z (swd Y c w) S) → jj_Ex d mX1_swapDues 2 [.ref 20, iv (c : Int), iv (w : Int), iv (r : Int), v4, v5, v6] [] (jj_h Z (swd Y c r) S) Q := by
  intro n
  induction n with
  | zero =>
    intro r v4 v5 v6 hr hQ
    refine bX1_swapDues_2 (by omega) (by omega) (fun _ => bX1_swapDues_50 ?_) (fun z => by omega)
    rw [show w = r by omega] at hQ; exact hQ
  | succ n ih =>
    intro r v4 v5 v6 hr hQ
    have e1 : ((r : Int) * 4 + (c : Int)).toNat = r * 4 + c := by omega
    refine bX1_swapDues_2 (by omega) (by omega) (fun z => by omega) (fun _ => bX1_swapDues_7 (by omega) (by omega) (by omega) (by omega) (by omega) (by omega) (by omega) (by omega) ?_)
    rw [e1, Int.toNat_natCast, swd_s Y hc r]
    exact ih (r + 1) _ _ _ (by omega) hQ
theorem kX1_swapDues {c w : Nat} (hc : c < 4) (hw : w ≤ 4) (k : K (jj_h Z (swd Y c w) S)) : jj_Cv d mX1_swapDues [.ref 20, iv (c : Int), iv (w : Int)] (jj_h Z Y S) K := by
  refine nX1_swapDues (bX1_swapDues_0 ?_)
  have := lX1_swapDues (d := d) (Z := Z) (Y := Y) (S := S) (Q := fun r h1 => r = none ∧ K h1) hc hw w 0 .null .null .null (by omega) ⟨rfl, k⟩
  rw [swd_0] at this
  exact this
end CO

/-! the class's corners: prices, bounds, one corner tried -/
theorem bcn_fp : ∀ M : Nat, M < 7 → ∀ p : Nat, p < 64 → p < 2 ^ M → bcn p = fp (bt p) M := by decide +kernel
theorem bdd.sg {x c : Int} (h : bdd x c) (y : Int) : bdd (sgn y * x) c := by
  unfold bdd sgn at *
  split <;> omega
theorem sf_bdd {f : Nat → Int} {c : Int} : ∀ (n k : Nat), (∀ i, k ≤ i → i < k + n → bdd (f i) c) → bdd (sf f k n) (c * n) := fun n k h => sf_bound n k h
section CP
variable {d : Nat} {Z Y : Nat → Nat → Int} {S : Nat × (Nat → Int32)} {Q : Option Value → jj_Hp → Prop} {K : jj_Hp → Prop} {Ki Kl : Int → jj_Hp → Prop} {b : Bk} {p q : Nat}
theorem cD_b (hB : BR b) (h4 : ckk b p ≤ 4) : bdd (cD b p q) 157464 := jdt_9 h4 (fun i t _ _ => CA9 hB i t)
theorem cN_b (hB : BR b) (h4 : ckk b p ≤ 4) (hk : ckk b p = fp (bt q) (bN b)) (c : Nat) : bdd (cN b p q c) 1732104 := jdt_w h4 (fun i t _ _ => CA9 hB i t) (fun t ht => cdu99 hB (by omega))
theorem slo_b (hB : BR b) (h4 : ckk b p ≤ 4) (hk : ckk b p = fp (bt q) (bN b)) (r : Nat) : bdd (slo b p q r) 1732104 := by
  unfold slo
  split
  · exact (cN_b hB h4 hk _).sg _
  · unfold bdd; omega
theorem bel_b (hB : BR b) (h4 : ckk b p ≤ 4) : bdd (bel b p q) 157464 := (cD_b hB h4).sg _
theorem bey_b (hB : BR b) (h4 : ckk b p ≤ 4) (hk : ckk b p = fp (bt q) (bN b)) {t : Nat} (ht : t < bN b) : bdd (bey b p q t) 109122552 := by
  have h6 := hB.2.1
  have hW := hB.2.2.1 t ht
  have a := (show bdd (bW b t) 99 from ⟨hW.1, hW.2.1⟩).mul (bel_b (p := p) (q := q) hB h4)
  have c := sf_bdd (f := fun r => bF b r t * slo b p q r) (bM b) 0 (fun r _ _ => (bF9 hB r t).mul (slo_b hB h4 hk r))
  have e : (9 * 1732104 : Int) * ((bM b : Nat) : Int) ≤ 93533616 := by omega
  unfold bdd at *
  unfold bey
  omega
theorem kJ9_maxl {x y : Int} (hx : i64 x) (hy : i64 y) (k : Kl (max x y) (jj_h Z Y S)) : jj_Cl d mJ9_max_f86c9 [lv x, lv y] (jj_h Z Y S) Kl := by
  refine nJ9_max_f86c9 (bJ9_max_f86c9_0 hx hy (fun h => bJ9_max_f86c9_10 ⟨_, rfl, ?_⟩) (fun h => bJ9_max_f86c9_6 ⟨_, rfl, ?_⟩))
  · rw [show max x y = y by omega] at k; exact k
  · rw [show max x y = x by omega] at k; exact k
theorem kJ9_minl {x y : Int} (hx : i64 x) (hy : i64 y) (k : Kl (min x y) (jj_h Z Y S)) : jj_Cl d mJ9_min_f86c9 [lv x, lv y] (jj_h Z Y S) Kl := by
  refine nJ9_min_f86c9 (bJ9_min_f86c9_0 hx hy (fun h => bJ9_min_f86c9_10 ⟨_, rfl, ?_⟩) (fun h => bJ9_min_f86c9_6 ⟨_, rfl, ?_⟩))
  · rw [show min x y = y by omega] at k; exact k
  · rw [show min x y = x by omega] at k; exact k
theorem kJ9_abs {x : Int} (hx : i64 x) (k : Kl (sgn x * x) (jj_h Z Y S)) : jj_Cl d mJ9_abs_067f4 [lv x] (jj_h Z Y S) Kl := by
  unfold sgn at k
  refine nJ9_abs_067f4 (bJ9_abs_067f4_0 hx (fun h => bJ9_abs_067f4_11 ⟨_, rfl, ?_⟩) (fun h => bJ9_abs_067f4_6 ⟨_, rfl, ?_⟩))
  · rw [if_neg (by omega), Int.one_mul] at k; exact k
  · rw [if_pos (by omega), Int.neg_one_mul] at k; exact k
theorem kX1_slope {i r : Nat} (hi : i < 210) (hr : r < 6) (k : Kl (Y 23 (i * 6 + r)) (jj_h Z Y S)) : jj_Cl d mX1_slope [.ref 20, iv (i : Int), iv (r : Int)] (jj_h Z Y S) Kl := by
  refine nX1_slope (bX1_slope_0 (by omega) (by omega) ⟨_, rfl, ?_⟩)
  rw [show ((i : Int) * 6 + (r : Int)).toNat = i * 6 + r by omega]; exact k
/-- the slopes of one corner are written, no others -/
def y23 (n0 : Nat) (Y Y' : Nat → Nat → Int) : Prop := fr (fun a => ¬ a = 23) Y Y' ∧ ∀ j, ¬ (n0 * 6 ≤ j ∧ j < n0 * 6 + 6) → Y' 23 j = Y 23 j
theorem det_cells (hw : ckk b p ≤ 4) (hk : ckk b p = fp (bt q) (bN b)) (hce : ∀ i c, i < fp (bt q) (bN b) → c < fp (bt p) (bM b) → Y 24 (i * 4 + c) = CA b p q c i) : jdt (ckk b p) (fun r k => Y 24 (r * 4 + k)) = cD b p q := by
  unfold cD
  rw [← jdt_tr (ckk b p) (CA b p q)]
  exact jdt_congr (fun i t hi ht => hce i t (by omega) ht)
theorem det_swd (hw : ckk b p ≤ 4) (hk : ckk b p = fp (bt q) (bN b)) (hdu : ∀ i, i < fp (bt q) (bN b) → Y 25 i = cdu b q i) (hce : ∀ i c, i < fp (bt q) (bN b) → c < fp (bt p) (bM b) → Y 24 (i * 4 + c) = CA b p q c i) (c : Nat) : (∀ r k, r < ckk b p → k < ckk b p → swd Y c (ckk b p) 24 (r * 4 + k) = rr (CA b p q) c (cdu b q) k r) ∧ jdt (ckk b p) (fun r k => swd Y c (ckk b p) 24 (r * 4 + k)) = cN b p q c := by
  have key : ∀ r k, r < ckk b p → k < ckk b p → swd Y c (ckk b p) 24 (r * 4 + k) = rr (CA b p q) c (cdu b q) k r := by
    intro r k hr hk2
    unfold swd rr
    by_cases e : k = c
    · rw [if_pos (by omega), if_pos e, show (r * 4 + k) / 4 = r by omega]; exact hdu r (by omega)
    · rw [if_neg (by omega), if_neg (by omega), if_neg e]; exact hce r k (by omega) hk2
  refine ⟨key, ?_⟩
  unfold cN
  rw [← jdt_tr (ckk b p) (rr (CA b p q) c (cdu b q))]
  exact jdt_congr key
theorem lX1_writePrices {n0 : Nat} (hB : BR b) (hp : p < 64) (hw : ckk b p ≤ 4) (hk : ckk b p = fp (bt q) (bN b)) (hpM : p < 2 ^ bM b) (hn : Z 20 0 = (n0 : Int)) (hn0 : n0 < 210) (hdu : ∀ i, i < fp (bt q) (bN b) → Y 25 i = cdu b q i) (hce : ∀ i c, i < fp (bt q) (bN b) → c < fp (bt p) (bM b) → Y 24 (i * 4 + c) = CA b p q c i) (k1 : ∀ Y', y23 n0 Y Y' → (∀ r, r < 6 → 0 ≤ slo b p q r) → (∀ r, r < 6 → Y' 23 (n0 * 6 + r) = slo b p q r) → Q (some (iv 1)) (jj_h Z Y' S)) (k0 : ∀ Y' r, y23 n0 Y Y' → r < 6 → slo b p q r < 0 → Q (some (iv 0)) (jj_h Z Y' S)) : ∀ (n r : Nat) (Y' : Nat → Nat → Int) (v7 v8 : Value), r + n = 6 → y23 n0 Y Y' → (∀ r', r' < r → 0 ≤ slo b p q r' ∧ Y' 23 (n0 * 6 + r') = slo b p q r') → jj_Ex (d + 6) mX1_writePrices 6 [.ref 20, iv (p : Int), iv ((ckk b p : Nat) : Int), lv (cD b p q), .null, iv ((fp (bt p) r : Nat) : Int), iv (r : Int), v7, v8] [] (jj_h Z Y' S) Q := by
  have h6 := hB.2.1
  have hDb := cD_b (p := p) (q := q) hB hw
  unfold bdd at hDb
  intro n
  induction n with
  | zero =>
    intro r Y' v7 v8 hr f h
    exact bX1_writePrices_6 (by omega) (fun _ => bX1_writePrices_97 (k1 Y' f (fun r' hr' => (h r' (by omega)).1) (fun r' hr' => (h r' (by omega)).2))) (fun z => by omega)
  | succ n ih =>
    intro r Y' v7 v8 hr f h
    have hsb := slo_b (b := b) (p := p) (q := q) hB hw hk r
    unfold bdd at hsb
    -- the price is written, or it is below 0
    have wr : ∀ a7 : Int, a7 = slo b p q r → ¬ a7 < 0 → jj_Ex (d + 6) mX1_writePrices 74 [.ref 20, iv (p : Int), iv ((ckk b p : Nat) : Int), lv (cD b p q), .null, iv ((fp (bt p) (r + 1) : Nat) : Int), iv (r : Int), lv a7, .null] [] (jj_h Z Y' S) Q := by
      intro a7 ha hnn
      have e1 : ((Z 20 0) * 6 + (r : Int)).toNat = n0 * 6 + r := by rw [hn]; omega
      refine bX1_writePrices_74 (by rw [hn]; omega) (by rw [hn]; omega) ?_
      rw [e1]
      refine ih (r + 1) _ _ _ (by omega) ⟨fun a ha' j => by rw [zu_ne ha']; exact f.1 a ha' j, fun j hj => by rw [zu_nk (by omega)]; exact f.2 j hj⟩ (fun r' hr' => ?_)
      by_cases e : r' = r
      · subst e; rw [zu_at]; exact ⟨by omega, ha⟩
      · rw [zu_nk (by omega)]; exact h r' (by omega)
    have fin : ∀ x : Int, sgn (cD b p q) * x = slo b p q r → (∀ k0' : 0 ≤ cD b p q, jj_Ex (d + 6) mX1_writePrices 65 [.ref 20, iv (p : Int), iv ((ckk b p : Nat) : Int), lv (cD b p q), .null, iv ((fp (bt p) (r + 1) : Nat) : Int), iv (r : Int), lv x, .null] [] (jj_h Z Y' S) Q) ∧ (∀ k0' : ¬ 0 ≤ cD b p q, jj_Ex (d + 6) mX1_writePrices 60 [.ref 20, iv (p : Int), iv ((ckk b p : Nat) : Int), lv (cD b p q), .null, iv ((fp (bt p) (r + 1) : Nat) : Int), iv (r : Int), lv x, .null] [] (jj_h Z Y' S) Q) := by
      intro x hx
      constructor
      · intro hD
        have e : x = slo b p q r := by rw [← hx]; unfold sgn; rw [if_neg (by omega), Int.one_mul]
        refine bX1_writePrices_65 (by omega) (fun z => wr x e (by omega)) (fun z => bX1_writePrices_72 (k0 Y' r f (by omega) (by omega)))
      · intro hD
        have e : -x = slo b p q r := by rw [← hx]; unfold sgn; rw [if_pos (by omega), Int.neg_one_mul]
        refine bX1_writePrices_60 (by omega) (fun z => wr (-x) e (by omega)) (fun z => bX1_writePrices_72 (k0 Y' r f (by omega) (by omega)))
    refine bX1_writePrices_6 (by omega) (fun z => by omega) (fun _ => bX1_writePrices_13 (kX1_has (by omega) (by omega) (fun hb => bX1_writePrices_22 (by omega) (fun z => by omega) (fun _ => bX1_writePrices_25 ?_)) (fun hb => bX1_writePrices_22 (by omega) (fun _ => ?_) (fun z => absurd rfl z))))
    · have hbt := bt_1.2 hb
      have hrM : r < bM b := by
        by_cases e : r < bM b
        · exact e
        · rw [bt_ge hpM (by omega)] at hbt; exact absurd hbt Bool.false_ne_true
      have hc : fp (bt p) r < ckk b p := fp_lt hbt hrM
      have hdu' : ∀ i, i < fp (bt q) (bN b) → Y' 25 i = cdu b q i := fun i hi => by rw [f.1 25 (by omega)]; exact hdu i hi
      have hce' : ∀ i c, i < fp (bt q) (bN b) → c < fp (bt p) (bM b) → Y' 24 (i * 4 + c) = CA b p q c i := fun i c hi hc => by rw [f.1 24 (by omega)]; exact hce i c hi hc
      obtain ⟨ds1, ds2⟩ := det_swd hw hk hdu' hce' (fp (bt p) r)
      refine kX1_swapDues (by omega) hw (bX1_writePrices_32 (kX1_determinant hw (fun r' k' hr' hk' => ?_) (bX1_writePrices_42 (kX1_swapDues (by omega) hw ?_))))
      · rw [ds1 r' k' hr' hk']
        unfold rr
        split
        · have := cdu99 (b := b) (q := q) hB (i := r') (by omega)
          unfold bdd at this; omega
        · have := CA9 (p := p) (q := q) hB k' r'
          unfold bdd at this; omega
      · rw [swd_swd Y' (by omega), ds2]
        have es : sgn (cD b p q) * cN b p q (fp (bt p) r) = slo b p q r := by unfold slo; rw [if_pos hbt]
        obtain ⟨f1, f2⟩ := fin _ es
        rw [fp_y hbt] at f1 f2
        exact bX1_writePrices_51 (by omega) f1 f2
    · have hbt := bt_0.2 hb
      have es : sgn (cD b p q) * 0 = slo b p q r := by unfold slo; rw [if_neg (by rw [hbt]; exact Bool.false_ne_true), Int.mul_zero]
      obtain ⟨f1, f2⟩ := fin _ es
      rw [fp_n hbt] at f1 f2
      exact bX1_writePrices_54 (by omega) f1 f2
theorem lX1_ba1 {i : Nat} {sl : Nat → Int} {v6 v7 v8 : Value} (hB : BR b) (hX : XB Z b) (hi : i < 210) (hs : ∀ r, r < 6 → Y 23 (i * 6 + r) = sl r) : ∀ (n r : Nat) (a : Int), r + n = bM b → jj_Ex (d + 1) mX1_boundAt 39 [.ref 20, .ref 1, iv (i : Int), lv (a + sf (fun r => bI b r * sl r) r n), .null, iv ((bM b : Nat) : Int), v6, v7, v8] [] (jj_h Z Y S) Q → jj_Ex (d + 1) mX1_boundAt 5 [.ref 20, .ref 1, iv (i : Int), lv a, .null, iv (r : Int), v6, v7, v8] [] (jj_h Z Y S) Q := by
  have h6 := hB.2.1
  have x2 := hX.2.1
  intro n
  induction n with
  | zero =>
    intro r a hr hQ
    rw [show a + sf (fun r => bI b r * sl r) r 0 = a from Int.add_zero _, show bM b = r by omega] at hQ
    exact bX1_boundAt_5 (by omega) (by omega) (fun _ => hQ) (fun z => by omega)
  | succ n ih =>
    intro r a hr hQ
    have e2 : ((r : Int)).toNat = r := Int.toNat_natCast r
    have e7 := (hX.2.2.2.1 r (by omega)).2.1
    have hI := hB.2.2.2.1 r (by omega)
    refine bX1_boundAt_5 (by omega) (by omega) (fun z => by omega) (fun _ => bX1_boundAt_14 (by omega) (by omega) (by rw [e2]; omega) (kX1_slope hi (by omega) (bX1_boundAt_30 ?_)))
    rw [e2, e7, hs r (by omega)]
    refine ih (r + 1) _ (by omega) ?_
    rw [Int.add_assoc]; exact hQ
theorem lX1_ba3 {i t : Nat} {sl : Nat → Int} {tot : Int} (hB : BR b) (hX : XB Z b) (ht : t < bN b) (hi : i < 210) (hs : ∀ r, r < 6 → Y 23 (i * 6 + r) = sl r) : ∀ (n r : Nat) (a : Int), r + n = bM b → jj_Ex (d + 1) mX1_boundAt 112 [.ref 20, .ref 1, iv (i : Int), lv tot, .null, iv (t : Int), lv (a - sf (fun r => bF b r t * sl r) r n), .null, iv ((bM b : Nat) : Int)] [] (jj_h Z Y S) Q → jj_Ex (d + 1) mX1_boundAt 71 [.ref 20, .ref 1, iv (i : Int), lv tot, .null, iv (t : Int), lv a, .null, iv (r : Int)] [] (jj_h Z Y S) Q := by
  have h6 := hB.2.1
  have h4 := hB.1
  have x2 := hX.2.1
  intro n
  induction n with
  | zero =>
    intro r a hr hQ
    rw [show a - sf (fun r => bF b r t * sl r) r 0 = a from Int.sub_zero _, show bM b = r by omega] at hQ
    exact bX1_boundAt_71 (by omega) (by omega) (fun _ => hQ) (fun z => by omega)
  | succ n ih =>
    intro r a hr hQ
    have e1 : ((r : Int) * 4 + (t : Int)).toNat = r * 4 + t := by omega
    have e9 := hX.2.2.2.2 r t (by omega) (by omega)
    have f9 := bF9 hB r t
    unfold bdd at f9
    refine bX1_boundAt_71 (by omega) (by omega) (fun z => by omega) (fun _ => bX1_boundAt_80 (by omega) (by omega) (by rw [e1, e9]; omega) (kX1_slope hi (by omega) (bX1_boundAt_102 ?_)))
    rw [e1, e9, hs r (by omega)]
    refine ih (r + 1) _ (by omega) ?_
    rw [show a - bF b r t * sl r - sf (fun r => bF b r t * sl r) (r + 1) n = a - sf (fun r => bF b r t * sl r) r (n + 1) by
      show _ = a - (bF b r t * sl r + sf (fun r => bF b r t * sl r) (r + 1) n)
      omega]
    exact hQ
theorem lX1_ba2 {i : Nat} {sl : Nat → Int} {be : Int} (hB : BR b) (hX : XB Z b) (hi : i < 210) (hs : ∀ r, r < 6 → Y 23 (i * 6 + r) = sl r) (hbe : Y 22 i = be) (hr : ∀ t, t < bN b → i64 (bW b t * be - sf (fun r => bF b r t * sl r) 0 (bM b))) : ∀ (n t : Nat) (a : Int) (v6 v7 v8 : Value), t + n = bN b → Q (some (lv (a + sf (fun t => bT b t * max 0 (bW b t * be - sf (fun r => bF b r t * sl r) 0 (bM b))) t n))) (jj_h Z Y S) → jj_Ex (d + 1) mX1_boundAt 42 [.ref 20, .ref 1, iv (i : Int), lv a, .null, iv (t : Int), v6, v7, v8] [] (jj_h Z Y S) Q := by
  have h4 := hB.1
  have x1 := hX.1
  intro n
  induction n with
  | zero =>
    intro t a v6 v7 v8 ht hQ
    rw [show a + sf (fun t => bT b t * max 0 (bW b t * be - sf (fun r => bF b r t * sl r) 0 (bM b))) t 0 = a from Int.add_zero _] at hQ
    exact bX1_boundAt_42 (by omega) (by omega) (fun _ => bX1_boundAt_136 hQ) (fun z => by omega)
  | succ n ih =>
    intro t a v6 v7 v8 ht hQ
    have e2 : ((t : Int)).toNat = t := Int.toNat_natCast t
    have e3 : ((i : Int)).toNat = i := Int.toNat_natCast i
    have ew := hX.2.2.1 t (by omega)
    have hT := hB.2.2.1 t (by omega)
    have hr' := hr t (by omega)
    refine bX1_boundAt_42 (by omega) (by omega) (fun z => by omega) (fun _ => bX1_boundAt_51 (by omega) (by omega) (by rw [e2]; omega) (by omega) (by omega) ?_)
    rw [e2, e3, ew.1, hbe]
    refine lX1_ba3 (sl := sl) hB hX (by omega) hi hs (bM b) 0 _ (by omega) (bX1_boundAt_112 (by omega) (by omega) (by rw [e2]; omega) (kJ9_maxl (by omega) hr' (bX1_boundAt_127 ?_)))
    rw [e2, ew.2]
    refine ih (t + 1) _ _ _ _ (by omega) ?_
    rw [Int.add_assoc]; exact hQ
theorem kX1_boundAt {i : Nat} {sl : Nat → Int} {be : Int} (hB : BR b) (hX : XB Z b) (hi : i < 210) (hs : ∀ r, r < 6 → Y 23 (i * 6 + r) = sl r) (hbe : Y 22 i = be) (hr : ∀ t, t < bN b → i64 (bW b t * be - sf (fun r => bF b r t * sl r) 0 (bM b))) (k : Kl (sf (fun r => bI b r * sl r) 0 (bM b) + sf (fun t => bT b t * max 0 (bW b t * be - sf (fun r => bF b r t * sl r) 0 (bM b))) 0 (bN b)) (jj_h Z Y S)) : jj_Cl (d + 1) mX1_boundAt [.ref 20, .ref 1, iv (i : Int)] (jj_h Z Y S) Kl := by
  refine nX1_boundAt (bX1_boundAt_0 (lX1_ba1 hB hX hi hs (bM b) 0 0 (by omega) (bX1_boundAt_39 (lX1_ba2 hB hX hi hs hbe hr (bN b) 0 _ _ _ _ (by omega) ⟨_, rfl, ?_⟩))))
  rw [Int.zero_add]; exact k
/-- a corner as it is kept -/
def Pt (b : Bk) (Y : Nat → Nat → Int) (i p q : Nat) : Prop := Y 21 i = topc b p q ∧ Y 22 i = bel b p q ∧ ∀ r, r < 6 → Y 23 (i * 6 + r) = slo b p q r
def yco (n0 : Nat) (Y Y' : Nat → Nat → Int) : Prop := fr (fun a => ¬ (21 ≤ a ∧ a ≤ 25)) Y Y' ∧ (∀ j, j < n0 → Y' 21 j = Y 21 j ∧ Y' 22 j = Y 22 j) ∧ ∀ j, j < n0 * 6 → Y' 23 j = Y 23 j
/-- one corner tried: kept where it is one -/
theorem kX1_tryCorner {n0 : Nat} (hB : BR b) (hX : XB Z b) (hp : p < 2 ^ bM b) (hq : q < 2 ^ bN b) (hc : ∀ r, r < bM b → bt p r = true → cf b r = true) (hn : Z 20 0 = (n0 : Int)) (hn0 : bcn p = bcn q → n0 < 210) (hn1 : n0 ≤ 210) (k1 : ∀ Y', yco n0 Y Y' → VC b p q → bcn p = bcn q → Pt b Y' n0 p q → K (jj_h (zu Z 20 0 (((n0 + 1 : Nat)) : Int)) Y' S)) (k0 : ∀ Y', yco n0 Y Y' → ¬ VC b p q → K (jj_h Z Y' S)) : jj_Cv (d + 7) mX1_tryCorner [.ref 20, .ref 1, iv (p : Int), iv (q : Int)] (jj_h Z Y S) K := by
  have h4 := hB.1
  have h6 := hB.2.1
  have p64 : p < 64 := Nat.lt_of_lt_of_le hp (Nat.pow_le_pow_right (by omega) h6)
  have q16 : q < 16 := Nat.lt_of_lt_of_le hq (Nat.pow_le_pow_right (by omega) h4)
  have ep := bcn_fp (bM b) (by omega) p p64 hp
  have eq := bcn_fp (bN b) (by omega) q (by omega) hq
  have hle := fp_le (bt q) (bN b)
  have hlp := fp_le (bt p) (bM b)
  have yr : yco n0 Y Y := ⟨fr.rf, fun _ _ => ⟨rfl, rfl⟩, fun _ _ => rfl⟩
  have ye : ∀ Y', y2425 Y Y' → yco n0 Y Y' := fun Y' f => ⟨f.mono (fun a ha => by omega), fun j _ => ⟨f 21 (by omega) j, f 22 (by omega) j⟩, fun j _ => f 23 (by omega) j⟩
  refine nX1_tryCorner (bX1_tryCorner_0 (kJ6_bitCount p64 (bX1_tryCorner_4 (kJ6_bitCount (by omega) (bX1_tryCorner_10 (by omega) (by omega) (fun e => bX1_tryCorner_25 ⟨rfl, k0 Y yr (fun hv => ?_)⟩) (fun e => bX1_tryCorner_15 (by omega) (fun _ => bX1_tryCorner_26 ?_) (fun e2 => by have := hn0 (by omega); omega)))))))
  · have := hv.2.1
    unfold ckk at this
    omega
  · have hk : ckk b p = fp (bt q) (bN b) := by unfold ckk; omega
    have hw : ckk b p ≤ 4 := by omega
    have nlt := hn0 (by omega)
    have hDb := cD_b (p := p) (q := q) hB hw
    unfold bdd at hDb
    have ek : ((bcn p : Nat) : Int) = ((ckk b p : Nat) : Int) := by unfold ckk; omega
    rw [ek]
    refine jj_Cv.deep (d := d + 1) (by omega) (kX1_writeEquations hB hX p64 q16 hw (fun Y1 f1 hdu hce => bX1_tryCorner_33 ?_))
    refine jj_Cl.deep (d := d + 5) (by omega) (kX1_determinant hw (fun r k hr hk2 => ?_) ?_)
    · rw [hce r k (by omega) hk2]
      have := CA9 (p := p) (q := q) hB k r
      unfold bdd at this; omega
    · rw [det_cells hw hk hce]
      refine bX1_tryCorner_44 (by omega) (fun e => bX1_tryCorner_65 ⟨rfl, k0 Y1 (ye Y1 f1) (fun hv => hv.2.2.1 e)⟩) (fun e => bX1_tryCorner_53 (nX1_writePrices (bX1_writePrices_0 ?_)))
      refine lX1_writePrices (n0 := n0) (Y := Y1) (q := q) hB p64 hw hk hp hn nlt hdu hce (fun Y2 f2 hnn hsl => ⟨_, rfl, bX1_tryCorner_62 (by omega) (fun _ => bX1_tryCorner_66 (kJ9_abs (by omega) (bX1_tryCorner_79 (by omega) (by omega) ?_))) (fun z => by omega)⟩) (fun Y2 r f2 hr hneg => ⟨_, rfl, bX1_tryCorner_62 (by omega) (fun z => absurd rfl z) (fun _ => bX1_tryCorner_65 ⟨rfl, k0 Y2 ?_ (fun hv => ?_)⟩)⟩) 6 0 Y1 _ _ (by omega) ⟨fr.rf, fun _ _ => rfl⟩ (fun r' hr' => by omega)
      · rw [hn, Int.toNat_natCast]
        have hv : VC b p q := by
          refine ⟨hc, hk, e, fun c hc' => ?_⟩
          obtain ⟨g1, g2, g3⟩ := gd_in (φ := bt p) (n := bM b) (c := c) hc'
          have := hnn (gd (bt p) (bM b) c) (by omega)
          unfold slo at this
          rw [if_pos g2, g3] at this
          exact this
        refine jj_Cl.deep (d := d + 1) (by omega) (kX1_boundAt (sl := slo b p q) (be := bel b p q) hB hX nlt (fun r hr => ?_) ?_ (fun t ht => ?_) (bX1_tryCorner_97 (by omega) (by omega) ⟨rfl, ?_⟩))
        · rw [zu_ne (by omega)]; exact hsl r hr
        · rw [zu_at]; rfl
        · have := bey_b (p := p) (q := q) hB hw hk ht
          unfold bdd bey at this
          omega
        · rw [hn, Int.toNat_natCast]
          refine k1 _ ⟨fun a ha j => ?_, fun j hj => ⟨?_, ?_⟩, fun j hj => ?_⟩ hv (by omega) ⟨?_, ?_, fun r hr => ?_⟩
          · rw [zu_ne (by omega), zu_ne (by omega), f2.1 a (by omega), f1 a (by omega)]
          · rw [zu_nk (by omega), zu_ne (by omega), f2.1 21 (by omega), f1 21 (by omega)]
          · rw [zu_ne (by omega), zu_nk (by omega), f2.1 22 (by omega), f1 22 (by omega)]
          · rw [zu_ne (by omega), zu_ne (by omega), f2.2 j (by omega), f1 23 (by omega)]
          · rw [zu_at]; rfl
          · rw [zu_ne (by omega), zu_at]; rfl
          · rw [zu_ne (by omega), zu_ne (by omega)]; exact hsl r hr
      · exact ⟨fun a ha j => by rw [f2.1 a (by omega), f1 a (by omega)], fun j hj => ⟨by rw [f2.1 21 (by omega), f1 21 (by omega)], by rw [f2.1 22 (by omega), f1 22 (by omega)]⟩, fun j hj => by rw [f2.2 j (by omega), f1 23 (by omega)]⟩
      · unfold slo at hneg
        split at hneg
        · next z =>
          have hrM : r < bM b := by
            by_cases e' : r < bM b
            · exact e'
            · rw [bt_ge hp (by omega)] at z; exact absurd z Bool.false_ne_true
          have := hv.2.2.2 _ (fp_lt z hrM)
          omega
        · omega
end CP

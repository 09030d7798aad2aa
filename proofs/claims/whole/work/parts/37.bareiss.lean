/-! the reference's determinant -/
theorem jd4_b {a b c d e f g h i j k l m n o p : Int} {B : Int} (ha : bdd a B) (hb : bdd b B) (hc : bdd c B) (hd : bdd d B) {C : Int} (h1 : bdd (jd3 f g h j k l n o p) C) (h2 : bdd (jd3 e g h i k l m o p) C) (h3 : bdd (jd3 e f h i j l m n p) C) (h4 : bdd (jd3 e f g i j k m n o) C) : bdd (jd4 a b c d e f g h i j k l m n o p) (4 * (B * C)) := by
  have a1 := ha.mul h1
  have a2 := hb.mul h2
  have a3 := hc.mul h3
  have a4 := hd.mul h4
  unfold jd4
  unfold bdd at *
  omega
theorem jdt_99 {n : Nat} (hn : n ≤ 4) {A : Nat → Nat → Int} (h : ∀ i t, i < n → t < n → bdd (A i t) 99) : bdd (jdt n A) 3000000000 := by
  rcases le4 hn with rfl | rfl | rfl | rfl | rfl
  · show bdd 1 3000000000; unfold bdd; omega
  · exact (h 0 0 (by omega) (by omega)).mono (by omega)
  · exact (jd2_b (h 0 0 (by omega) (by omega)) (h 0 1 (by omega) (by omega)) (h 1 0 (by omega) (by omega)) (h 1 1 (by omega) (by omega))).mono (by omega)
  · exact (jd3_b (h 0 0 (by omega) (by omega)) (h 0 1 (by omega) (by omega)) (h 0 2 (by omega) (by omega)) (h 1 0 (by omega) (by omega)) (h 1 1 (by omega) (by omega)) (h 1 2 (by omega) (by omega)) (h 2 0 (by omega) (by omega)) (h 2 1 (by omega) (by omega)) (h 2 2 (by omega) (by omega))).mono (by omega)
  · have q : ∀ x y z : Nat, x < 4 → y < 4 → z < 4 → bdd (jd3 (A 1 x) (A 1 y) (A 1 z) (A 2 x) (A 2 y) (A 2 z) (A 3 x) (A 3 y) (A 3 z)) 5821794 := fun x y z hx hy hz => (jd3_b (h 1 x (by omega) hx) (h 1 y (by omega) hy) (h 1 z (by omega) hz) (h 2 x (by omega) hx) (h 2 y (by omega) hy) (h 2 z (by omega) hz) (h 3 x (by omega) hx) (h 3 y (by omega) hy) (h 3 z (by omega) hz)).mono (by omega)
    exact (jd4_b (h 0 0 (by omega) (by omega)) (h 0 1 (by omega) (by omega)) (h 0 2 (by omega) (by omega)) (h 0 3 (by omega) (by omega)) (q 1 2 3 (by omega) (by omega) (by omega)) (q 0 2 3 (by omega) (by omega) (by omega)) (q 0 1 3 (by omega) (by omega) (by omega)) (q 0 1 2 (by omega) (by omega) (by omega))).mono (by omega)
theorem jdt_99s {n : Nat} (hn : n ≤ 3) {A : Nat → Nat → Int} (h : ∀ i t, i < n → t < n → bdd (A i t) 99) : bdd (jdt n A) 5821794 := by
  rcases le4 (show n ≤ 4 by omega) with rfl | rfl | rfl | rfl | rfl
  · show bdd 1 5821794; unfold bdd; omega
  · exact (h 0 0 (by omega) (by omega)).mono (by omega)
  · exact (jd2_b (h 0 0 (by omega) (by omega)) (h 0 1 (by omega) (by omega)) (h 1 0 (by omega) (by omega)) (h 1 1 (by omega) (by omega))).mono (by omega)
  · exact (jd3_b (h 0 0 (by omega) (by omega)) (h 0 1 (by omega) (by omega)) (h 0 2 (by omega) (by omega)) (h 1 0 (by omega) (by omega)) (h 1 1 (by omega) (by omega)) (h 1 2 (by omega) (by omega)) (h 2 0 (by omega) (by omega)) (h 2 1 (by omega) (by omega)) (h 2 2 (by omega) (by omega))).mono (by omega)
  · omega
theorem mn_b {n k i t : Nat} (hk : k < n) (hn : n ≤ 4) {A : Nat → Nat → Int} (h : ∀ i t, i < n → t < n → bdd (A i t) 99) (hi : i < n) (ht : t < n) : bdd (mn k A i t) 3000000000 :=
  jdt_99 (by omega) (fun r c hr hc => h _ _ (by split <;> omega) (by split <;> omega))
theorem mn_bs {n k i t : Nat} (hk : k ≤ 2) (hkn : k < n) {A : Nat → Nat → Int} (h : ∀ i t, i < n → t < n → bdd (A i t) 99) (hi : i < n) (ht : t < n) : bdd (mn k A i t) 5821794 :=
  jdt_99s (by omega) (fun r c hr hc => h _ _ (by split <;> omega) (by split <;> omega))
section BA
variable {d : Nat} {Z : Nat → Nat → Int} {S : Nat × (Nat → Int32)} {Q : Option Value → jj_Hp → Prop} {x : Int} {N : Nat}
def y45 (Y Y' : Nat → Nat → Int) : Prop := fr (fun a => ¬ a = 45) Y Y'
theorem lX5_det135 {Y : Nat → Nat → Int} {sg la : Int} {k p : Nat} (hN : N ≤ 4) (hk : k < p) (hp : p < N) : ∀ (n t : Nat) (Y' : Nat → Nat → Int) (v10 v11 v12 : Value), t + n = N → y45 Y Y' → (∀ i u, i < 4 → u < 4 → Y' 45 (4 * i + u) = if u < t then sw (fun i u => Y 45 (4 * i + u)) k p i u else Y 45 (4 * i + u)) → (∀ Y'' v10 v11 v12, y45 Y Y'' → (∀ i u, i < N → u < N → Y'' 45 (4 * i + u) = sw (fun i u => Y 45 (4 * i + u)) k p i u) → jj_Ex d mX5_determinant 206 [.ref 27, iv x, iv (N : Int), lv sg, .null, lv la, .null, iv (k : Int), iv (p : Int), iv (N : Int), v10, v11, v12] [] (jj_h Z Y'' S) Q) → jj_Ex d mX5_determinant 135 [.ref 27, iv x, iv (N : Int), lv sg, .null, lv la, .null, iv (k : Int), iv (p : Int), iv (t : Int), v10, v11, v12] [] (jj_h Z Y' S) Q := by
  intro n
  induction n with
  | zero =>
    intro t Y' v10 v11 v12 ht f h c
    refine bX5_determinant_135 (by omega) (by omega) (fun _ => ?_) (fun z => by omega)
    have := c Y' v10 v11 v12 f (fun i u hi hu => by rw [h i u (by omega) (by omega), if_pos (by omega)])
    rw [show N = t by omega] at this ⊢
    exact this
  | succ n ih =>
    intro t Y' v10 v11 v12 ht f h c
    have e1 : ((4 * (p : Int)) + (t : Int)).toNat = 4 * p + t := by omega
    have e2 : ((4 * (k : Int)) + (t : Int)).toNat = 4 * k + t := by omega
    refine bX5_determinant_135 (by omega) (by omega) (fun z => by omega) (fun _ => bX5_determinant_141 (by omega) (by omega) (fun z => by omega) (fun _ => bX5_determinant_148 (by omega) (by omega) (by omega) (by omega) (by omega) (by omega) (by omega) (by omega) ?_))
    rw [e1, e2]
    have hp' := h p t (by omega) (by omega)
    have hk' := h k t (by omega) (by omega)
    rw [if_neg (by omega)] at hp' hk'
    refine ih (t + 1) _ _ _ _ (by omega) (fun a ha j => by rw [zu_ne ha, zu_ne ha]; exact f a ha j) (fun i u hi hu => ?_) c
    by_cases eu : u = t
    · subst eu
      rw [if_pos (by omega)]
      unfold sw
      by_cases ei : i = k
      · subst ei; rw [zu_at, if_pos rfl, hp']
      · rw [zu_nk (by omega), if_neg ei]
        by_cases ej : i = p
        · subst ej; rw [zu_at, if_pos rfl, hk']
        · rw [zu_nk (by omega), if_neg ej, h i u hi hu, if_neg (by omega)]
    · rw [zu_nk (by omega), zu_nk (by omega), h i u hi hu]
      by_cases e3 : u < t
      · rw [if_pos e3, if_pos (by omega)]
      · rw [if_neg e3, if_neg (by omega)]
theorem lX5_det95 {Y : Nat → Nat → Int} {sg la : Int} {k : Nat} {v9 v10 v11 v12 : Value} (hN : N ≤ 4) (hk : k < N) (hr : ∀ p, k ≤ p → p < N → i64 (Y 45 (4 * p + k))) : ∀ (n p : Nat), p + n = N → k ≤ p → (∀ q, k ≤ q → q < p → Y 45 (4 * q + k) = 0) → ((∀ q, k ≤ q → q < N → Y 45 (4 * q + k) = 0) → Q (some (lv 0)) (jj_h Z Y S)) → (∀ p, k ≤ p → p < N → ¬ Y 45 (4 * p + k) = 0 → jj_Ex d mX5_determinant 132 [.ref 27, iv x, iv (N : Int), lv sg, .null, lv la, .null, iv (k : Int), iv (p : Int), v9, v10, v11, v12] [] (jj_h Z Y S) Q) → jj_Ex d mX5_determinant 95 [.ref 27, iv x, iv (N : Int), lv sg, .null, lv la, .null, iv (k : Int), iv (p : Int), v9, v10, v11, v12] [] (jj_h Z Y S) Q := by
  intro n
  induction n with
  | zero =>
    intro p hp hkp hz k0 k1
    refine bX5_determinant_95 (by omega) (by omega) (fun _ => bX5_determinant_124 (by omega) (by omega) (fun z => by omega) (fun _ => bX5_determinant_130 (k0 (fun q h1 h2 => hz q h1 (by omega))))) (fun z => by omega)
  | succ n ih =>
    intro p hp hkp hz k0 k1
    have e1 : ((4 * (p : Int)) + (k : Int)).toNat = 4 * p + k := by omega
    refine bX5_determinant_95 (by omega) (by omega) (fun z => by omega) (fun _ => bX5_determinant_101 (by omega) (by omega) (by rw [e1]; exact hr p hkp (by omega)) (fun e => bX5_determinant_124 (by omega) (by omega) (fun _ => k1 p hkp (by omega) ?_) (fun z => by omega)) (fun e => bX5_determinant_118 (ih (p + 1) (by omega) (by omega) (fun q h1 h2 => ?_) k0 k1)))
    · rw [e1] at e; exact e
    · rw [e1] at e
      by_cases eq : q = p
      · subst eq; exact e
      · exact hz q h1 (by omega)
/-- the rows below are done up to a place -/
def Eli (N k : Nat) (A : Nat → Nat → Int) (i s : Nat) (Y : Nat → Nat → Int) : Prop := ∀ j u, k ≤ j → j < N → k ≤ u → u < N → Y 45 (4 * j + u) = if k < j ∧ (j < i ∨ (j = i ∧ s ≤ u)) then mn (k + 1) A j u else mn k A j u
theorem lX5_det251 {A : Nat → Nat → Int} {Y0 : Nat → Nat → Int} {sg : Int} {k i : Nat} {v8 : Int} (hN : N ≤ 4) (hki : k < i) (hi : i < N) (hb : ∀ i t, i < N → t < N → bdd (A i t) 99) (hl : jdt k A ≠ 0) : ∀ (n s : Nat) (Y : Nat → Nat → Int), k + n = s → s ≤ N → y45 Y0 Y → Eli N k A i s Y → (∀ Y' (v12 : Int), y45 Y0 Y' → Eli N k A (i + 1) N Y' → jj_Ex d mX5_determinant 320 [.ref 27, iv x, iv (N : Int), lv sg, .null, lv (jdt k A), .null, iv (k : Int), iv v8, lv (mn k A k k), .null, iv (i : Int), iv v12] [] (jj_h Z Y' S) Q) → jj_Ex d mX5_determinant 251 [.ref 27, iv x, iv (N : Int), lv sg, .null, lv (jdt k A), .null, iv (k : Int), iv v8, lv (mn k A k k), .null, iv (i : Int), iv ((s : Int) - 1)] [] (jj_h Z Y S) Q := by
  intro n
  induction n with
  | zero =>
    intro s Y hs hsN f h c
    refine bX5_determinant_251 (by omega) (by omega) (fun _ => c Y _ f (fun j u h1 h2 h3 h4 => ?_)) (fun z => by omega)
    rw [h j u h1 h2 h3 h4]
    by_cases e : k < j ∧ (j < i ∨ (j = i ∧ s ≤ u))
    · rw [if_pos e, if_pos (by omega)]
    · rw [if_neg e, if_neg (by omega)]
  | succ n ih =>
    intro s Y hs hsN f h c
    have e0 : (((s : Int) - 1)).toNat = s - 1 := by omega
    have e1 : ((4 * (i : Int)) + ((s : Int) - 1)).toNat = 4 * i + (s - 1) := by omega
    have e2 : ((4 * (i : Int)) + (k : Int)).toNat = 4 * i + k := by omega
    have e3 : ((4 * (k : Int)) + ((s : Int) - 1)).toNat = 4 * k + (s - 1) := by omega
    have w1 := h i (s - 1) (by omega) (by omega) (by omega) (by omega)
    have w2 := h i k (by omega) (by omega) (by omega) (by omega)
    have w3 := h k (s - 1) (by omega) (by omega) (by omega) (by omega)
    rw [if_neg (by omega)] at w1 w2 w3
    have sy := syl (show k ≤ 2 by omega) A i (s - 1)
    have b1 := (mn_bs (k := k) (by omega) (by omega) hb hi (show s - 1 < N by omega)).mul (mn_bs (k := k) (i := k) (t := k) (by omega) (by omega) hb (by omega) (by omega))
    have b2 := (mn_bs (k := k) (t := k) (by omega) (by omega) hb hi (by omega)).mul (mn_bs (k := k) (i := k) (t := s - 1) (by omega) (by omega) hb (by omega) (by omega))
    have b3 := jdt_99s (n := k) (A := A) (by omega) (fun i t hi ht => hb i t (by omega) (by omega))
    unfold bdd at b1 b2 b3
    refine bX5_determinant_251 (by omega) (by omega) (fun z => by omega) (fun _ => bX5_determinant_258 (by omega) (by omega) (by omega) (by omega) (by omega) (by omega) ?_ (by omega) hl (by omega) (by omega) ?_)
    · rw [e1, e2, e3, w1, w2, w3]; omega
    · rw [e1, e2, e3, w1, w2, w3, sy, Int.mul_tdiv_cancel_left _ hl, show ((s : Int) - 1 + (-1)) = ((s - 1 : Nat) : Int) - 1 by omega]
      refine ih (s - 1) _ (by omega) (by omega) (fun a ha j => by rw [zu_ne ha]; exact f a ha j) (fun j u h1 h2 h3 h4 => ?_) c
      by_cases e : j = i ∧ u = s - 1
      · obtain ⟨rfl, rfl⟩ := e
        rw [zu_at, if_pos (by omega)]
      · rw [zu_nk (by omega), h j u h1 h2 h3 h4]
        by_cases e5 : k < j ∧ (j < i ∨ (j = i ∧ s ≤ u))
        · rw [if_pos e5, if_pos (by omega)]
        · rw [if_neg e5, if_neg (by omega)]
theorem lX5_det240 {A : Nat → Nat → Int} {Y0 : Nat → Nat → Int} {sg : Int} {k : Nat} {v8 : Int} (hN : N ≤ 4) (hb : ∀ i t, i < N → t < N → bdd (A i t) 99) (hl : jdt k A ≠ 0) : ∀ (n i : Nat) (Y : Nat → Nat → Int) (v12 : Value), i + n = N → k < i → y45 Y0 Y → Eli N k A i N Y → (∀ Y' v12, y45 Y0 Y' → Eli N k A N N Y' → jj_Ex d mX5_determinant 326 [.ref 27, iv x, iv (N : Int), lv sg, .null, lv (jdt k A), .null, iv (k : Int), iv v8, lv (mn k A k k), .null, iv (N : Int), v12] [] (jj_h Z Y' S) Q) → jj_Ex d mX5_determinant 240 [.ref 27, iv x, iv (N : Int), lv sg, .null, lv (jdt k A), .null, iv (k : Int), iv v8, lv (mn k A k k), .null, iv (i : Int), v12] [] (jj_h Z Y S) Q := by
  intro n
  induction n with
  | zero =>
    intro i Y v12 hi hki f h c
    refine bX5_determinant_240 (by omega) (by omega) (fun _ => ?_) (fun z => by omega)
    rw [show i = N by omega] at h ⊢
    exact c Y _ f h
  | succ n ih =>
    intro i Y v12 hi hki f h c
    exact bX5_determinant_240 (by omega) (by omega) (fun z => by omega) (fun _ => bX5_determinant_246 (lX5_det251 hN hki (by omega) hb hl (N - k) N Y (by omega) (by omega) f h (fun Y' v12' f' h' => bX5_determinant_320 (ih (i + 1) Y' _ (by omega) (by omega) f' h' c))))
theorem lX5_det85 {D : Int} {Y0 : Nat → Nat → Int} (hN : N ≤ 4) (hQ : ∀ Y', y45 Y0 Y' → Q (some (lv D)) (jj_h Z Y' S)) : ∀ (m k : Nat) (A : Nat → Nat → Int) (Y : Nat → Nat → Int) (sg : Int) (v8 v9 v10 v11 v12 : Value), k + m = N → y45 Y0 Y → (∀ i t, i < N → t < N → bdd (A i t) 99) → jdt k A ≠ 0 → sg * jdt N A = D → (∀ j u, k ≤ j → j < N → k ≤ u → u < N → Y 45 (4 * j + u) = mn k A j u) → jj_Ex d mX5_determinant 85 [.ref 27, iv x, iv (N : Int), lv sg, .null, lv (jdt k A), .null, iv (k : Int), v8, v9, v10, v11, v12] [] (jj_h Z Y S) Q := by
  intro m
  induction m with
  | zero =>
    intro k A Y sg v8 v9 v10 v11 v12 hk f hb hl hD hW
    refine bX5_determinant_85 (by omega) (by omega) (fun _ => bX5_determinant_336 ?_) (fun z => by omega)
    rw [show k = N by omega, hD]; exact hQ Y f
  | succ m ih =>
    intro k A Y sg v8 v9 v10 v11 v12 hk f hb hl hD hW
    have ekk : ((4 * (k : Int)) + (k : Int)).toNat = 4 * k + k := by omega
    have go : ∀ (A' : Nat → Nat → Int) (Y' : Nat → Nat → Int) (sg' v8 : Int) (v12 : Value), y45 Y0 Y' → (∀ i t, i < N → t < N → bdd (A' i t) 99) → jdt k A' ≠ 0 → sg' * jdt N A' = D → (∀ j u, k ≤ j → j < N → k ≤ u → u < N → Y' 45 (4 * j + u) = mn k A' j u) → ¬ Y' 45 (4 * k + k) = 0 → jj_Ex d mX5_determinant 240 [.ref 27, iv x, iv (N : Int), lv sg', .null, lv (jdt k A'), .null, iv (k : Int), iv v8, lv (Y' 45 (4 * k + k)), .null, iv ((k : Int) + 1), v12] [] (jj_h Z Y' S) Q := by
      intro A' Y' sg' v8 v12 f' hb' hl' hD' hW' hnz
      rw [hW' k k (by omega) (by omega) (by omega) (by omega)] at hnz ⊢
      refine lX5_det240 (Y0 := Y0) hN hb' hl' (N - (k + 1)) (k + 1) Y' v12 (by omega) (by omega) f' (fun j u h1 h2 h3 h4 => by rw [hW' j u h1 h2 h3 h4, if_neg (by omega)]) (fun Y2 v12' f2 h2 => bX5_determinant_326 ?_)
      rw [mn_top] at hnz ⊢
      refine ih (k + 1) A' Y2 sg' _ _ _ _ _ (by omega) f2 hb' hnz hD' (fun j u h1 h3 h4 h5 => ?_)
      rw [h2 j u (by omega) h3 (by omega) h5, if_pos (by omega)]
    refine bX5_determinant_85 (by omega) (by omega) (fun z => by omega) (fun _ => bX5_determinant_91 (lX5_det95 hN (by omega) (fun p h1 h2 => ?_) (N - k) k (by omega) (by omega) (fun q h1 h2 => by omega) (fun hz => ?_) (fun p h1 h2 hnz => bX5_determinant_132 ?_)))
    · rw [hW p k h1 h2 (by omega) (by omega)]
      have := mn_b (k := k) (by omega) hN hb h2 (show k < N by omega)
      unfold bdd at this
      omega
    · have : jdt N A = 0 := jdt_col0 hN (by omega) hl (fun p h1 h2 => by rw [← hW p k h1 h2 (by omega) (by omega)]; exact hz p h1 h2)
      have hD0 : D = 0 := by rw [← hD, this, Int.mul_zero]
      have := hQ Y f
      rw [hD0] at this; exact this
    · by_cases e : p = k
      · subst e
        refine bX5_determinant_135 (by omega) (by omega) (fun z => by omega) (fun _ => bX5_determinant_141 (by omega) (by omega) (fun _ => bX5_determinant_206 (by omega) (by omega) (fun z => absurd rfl z) (fun _ => bX5_determinant_213 (by omega) (by omega) ?_)) (fun z => absurd rfl z))
        rw [ekk]
        exact go A Y sg _ _ f hb hl hD hW hnz
      · refine lX5_det135 (Y := Y) hN (show k < p by omega) h2 N 0 Y _ _ _ (by omega) fr.rf (fun i u _ _ => by rw [if_neg (by omega)]) (fun Y1 v10' v11' v12' f1 h3 => bX5_determinant_206 (by omega) (by omega) (fun _ => bX5_determinant_217 (by omega) (by omega) ?_) (fun z => by omega))
        rw [ekk]
        have e1 : jdt k (sw A k p) = jdt k A := jdt_congr (fun i t hi ht => by unfold sw; rw [if_neg (by omega), if_neg (by omega)])
        have e2 : ∀ j u, k ≤ j → j < N → k ≤ u → u < N → mn k (sw A k p) j u = sw (mn k A) k p j u := by
          intro j u a1 a2 a3 a4
          unfold sw
          by_cases ej : j = k
          · subst ej
            rw [if_pos rfl]
            refine jdt_congr (fun r c hr hc => ?_)
            show (if (if r < j then r else j) = j then A p (if c < j then c else u) else if (if r < j then r else j) = p then A j (if c < j then c else u) else A (if r < j then r else j) (if c < j then c else u)) = A (if r < j then r else p) (if c < j then c else u)
            by_cases er : r < j
            · rw [if_pos er, if_neg (by omega), if_neg (by omega), if_pos er]
            · rw [if_neg er, if_pos rfl, if_neg er]
          · rw [if_neg ej]
            by_cases ep : j = p
            · subst ep
              rw [if_pos rfl]
              refine jdt_congr (fun r c hr hc => ?_)
              show (if (if r < k then r else j) = k then A j (if c < k then c else u) else if (if r < k then r else j) = j then A k (if c < k then c else u) else A (if r < k then r else j) (if c < k then c else u)) = A (if r < k then r else k) (if c < k then c else u)
              by_cases er : r < k
              · rw [if_pos er, if_neg (by omega), if_neg (by omega), if_pos er]
              · rw [if_neg er, if_neg ej, if_pos rfl, if_neg er]
            · rw [if_neg ep]
              refine jdt_congr (fun r c hr hc => ?_)
              show (if (if r < k then r else j) = k then A p (if c < k then c else u) else if (if r < k then r else j) = p then A k (if c < k then c else u) else A (if r < k then r else j) (if c < k then c else u)) = A (if r < k then r else j) (if c < k then c else u)
              by_cases er : r < k
              · rw [if_pos er, if_neg (by omega), if_neg (by omega)]
              · rw [if_neg er, if_neg ej, if_neg ep]
        rw [← e1]
        refine go (sw A k p) Y1 (-sg) _ _ (f.trans f1) (fun i t hi ht => ?_) (by rw [e1]; exact hl) ?_ (fun j u a1 a2 a3 a4 => ?_) ?_
        · unfold sw
          split
          · exact hb p t h2 ht
          · split
            · exact hb k t (by omega) ht
            · exact hb i t hi ht
        · rw [jdt_sw hN A (show k < p by omega) h2, Int.neg_mul, Int.mul_neg, Int.neg_neg]; exact hD
        · rw [h3 j u a2 a4, e2 j u a1 a2 a3 a4]
          unfold sw
          split
          · exact hW p u (by omega) h2 a3 a4
          · split
            · exact hW k u (by omega) (by omega) a3 a4
            · exact hW j u a1 a2 a3 a4
        · rw [h3 k k (by omega) (by omega)]
          unfold sw
          rw [if_pos rfl]; exact hnz
end BA

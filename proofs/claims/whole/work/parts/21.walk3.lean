/-! the walk: begin, other limits and mosts, to a plan; the greatest that fits -/
/-- where begin stands: i rules, j things done -/
def bgL (Z : Nat → Nat → Int) (i j : Nat) : Nat → Nat → Int := fun a k => if a = 11 ∧ k < i then (if Z 8 k = 0 then 1000000 else Z 7 k) else if a = 13 ∧ k < i then 0 else if a = 12 ∧ k < j then Z 3 k else if a = 14 ∧ k < j then 0 else Z a k
theorem bgL_f {a : Nat} (h : ¬ (11 ≤ a ∧ a ≤ 14)) (Z : Nat → Nat → Int) (i j k : Nat) : bgL Z i j a k = Z a k := by
  unfold bgL
  rw [if_neg (by omega), if_neg (by omega), if_neg (by omega), if_neg (by omega)]
theorem bgL_0 (Z : Nat → Nat → Int) : bgL Z 0 0 = Z := by
  funext a k
  unfold bgL
  rw [if_neg (by omega), if_neg (by omega), if_neg (by omega), if_neg (by omega)]
theorem bgL_r (Z : Nat → Nat → Int) (i : Nat) (v : Int) (hv : v = if Z 8 i = 0 then 1000000 else Z 7 i) : zu (zu (bgL Z i 0) 11 i v) 13 i 0 = bgL Z (i + 1) 0 := by
  funext a k
  by_cases h1 : a = 13 ∧ k = i
  · obtain ⟨rfl, rfl⟩ := h1
    rw [zu_at]
    unfold bgL
    rw [if_neg (by omega), if_pos ⟨rfl, by omega⟩]
  · have e1 : zu (zu (bgL Z i 0) 11 i v) 13 i 0 a k = zu (bgL Z i 0) 11 i v a k := if_neg h1
    rw [e1]
    by_cases h2 : a = 11 ∧ k = i
    · obtain ⟨rfl, rfl⟩ := h2
      rw [zu_at, hv]
      unfold bgL
      rw [if_pos (show (11 = 11 ∧ k < k + 1) from ⟨rfl, by omega⟩)]
    · have e2 : zu (bgL Z i 0) 11 i v a k = bgL Z i 0 a k := if_neg h2
      rw [e2]
      unfold bgL
      by_cases h3 : a = 11 ∧ k < i
      · rw [if_pos h3, if_pos (show a = 11 ∧ k < i + 1 by omega)]
      · rw [if_neg h3, if_neg (show ¬ (a = 11 ∧ k < i + 1) by omega)]
        by_cases h4 : a = 13 ∧ k < i
        · rw [if_pos h4, if_pos (show a = 13 ∧ k < i + 1 by omega)]
        · rw [if_neg h4, if_neg (show ¬ (a = 13 ∧ k < i + 1) by omega)]
theorem bgL_t (Z : Nat → Nat → Int) (i j : Nat) : zu (zu (bgL Z i j) 12 j (Z 3 j)) 14 j 0 = bgL Z i (j + 1) := by
  funext a k
  by_cases h1 : a = 14 ∧ k = j
  · obtain ⟨rfl, rfl⟩ := h1
    rw [zu_at]
    unfold bgL
    rw [if_neg (by omega), if_neg (by omega), if_neg (by omega), if_pos ⟨rfl, by omega⟩]
  · have e1 : zu (zu (bgL Z i j) 12 j (Z 3 j)) 14 j 0 a k = zu (bgL Z i j) 12 j (Z 3 j) a k := if_neg h1
    rw [e1]
    by_cases h2 : a = 12 ∧ k = j
    · obtain ⟨rfl, rfl⟩ := h2
      rw [zu_at]
      unfold bgL
      rw [if_neg (by omega), if_neg (by omega), if_pos ⟨rfl, by omega⟩]
    · have e2 : zu (bgL Z i j) 12 j (Z 3 j) a k = bgL Z i j a k := if_neg h2
      rw [e2]
      unfold bgL
      by_cases h3 : a = 11 ∧ k < i
      · rw [if_pos h3, if_pos h3]
      · rw [if_neg h3, if_neg h3]
        by_cases h4 : a = 13 ∧ k < i
        · rw [if_pos h4, if_pos h4]
        · rw [if_neg h4, if_neg h4]
          by_cases h5 : a = 12 ∧ k < j
          · rw [if_pos h5, if_pos (show a = 12 ∧ k < j + 1 by omega)]
          · rw [if_neg h5, if_neg (show ¬ (a = 12 ∧ k < j + 1) by omega)]
            by_cases h6 : a = 14 ∧ k < j
            · rw [if_pos h6, if_pos (show a = 14 ∧ k < j + 1 by omega)]
            · rw [if_neg h6, if_neg (show ¬ (a = 14 ∧ k < j + 1) by omega)]
theorem i_lim {b : Bk} (hB : BR b) {r : Nat} (hr : r < bM b) : 0 ≤ lim0 b r ∧ lim0 b r ≤ 1000000 := by
  have := hB.2.2.2.1 r hr
  unfold lim0
  split <;> omega
theorem bd_T {b : Bk} (hB : BR b) : bd (bN b) (bT b) := fun t ht => ⟨(hB.2.2.1 t ht).2.2.1, (hB.2.2.1 t ht).2.2.2⟩
theorem bd_0 {n : Nat} : bd n (fun _ => 0) := fun _ _ => by show (0 : Int) ≤ 0 ∧ (0 : Int) ≤ 9; omega
theorem fo_in (b : Bk) (lim p : Nat → Int) : ∀ (k r : Nat), fo b lim p r k = -1000000 ∨ ((r : Int) ≤ fo b lim p r k ∧ fo b lim p r k < ((r + k : Nat) : Int))
  | 0, r => Or.inl rfl
  | k + 1, r => by
    unfold fo
    split
    · right; omega
    · rcases fo_in b lim p k (r + 1) with h | h
      · exact Or.inl h
      · right; omega
section WC
variable {d : Nat} {Z Y : Nat → Nat → Int} {S : Nat × (Nat → Int32)} {K : jj_Hp → Prop} {Ki : Int → jj_Hp → Prop} {Q : Option Value → jj_Hp → Prop} {b : Bk} {lim ms p : Nat → Int}
theorem lX3_begin2 (hB : BR b) (hX : XB Z b) {i : Nat} : ∀ (n j : Nat), j + n = bN b → Q none (jj_h (zu (bgL Z i (bN b)) 10 5 0) Y S) → jj_Ex d mX3_begin 60 [.ref 10, iv (j : Int)] [] (jj_h (bgL Z i j) Y S) Q := by
  have hn := hB.1
  have hx := hX.1
  have e10 : ∀ j, bgL Z i j 1 0 = Z 1 0 := fun j => bgL_f (by omega) Z i j 0
  intro n
  induction n with
  | zero =>
    intro j hj hQ
    refine bX3_begin_60 (by omega) (by rw [e10]; omega) (fun h => bX3_begin_99 ?_) (fun h => by rw [e10] at h; omega)
    rw [show bN b = j by omega] at hQ
    exact hQ
  | succ n ih =>
    intro j hj hQ
    refine bX3_begin_60 (by omega) (by rw [e10]; omega) (fun h => by rw [e10] at h; omega) (fun h => bX3_begin_71 (by omega) (by omega) (by omega) (by omega) (by omega) (by omega) ?_)
    have e2 : ((j : Int)).toNat = j := by omega
    have e3 : bgL Z i j 3 j = Z 3 j := bgL_f (by omega) Z i j j
    rw [e2, e3, bgL_t]
    exact ih (j + 1) (by omega) hQ
theorem lX3_begin1 (hB : BR b) (hX : XB Z b) : ∀ (n i : Nat), i + n = bM b → Q none (jj_h (zu (bgL Z (bM b) (bN b)) 10 5 0) Y S) → jj_Ex d mX3_begin 2 [.ref 10, iv (i : Int)] [] (jj_h (bgL Z i 0) Y S) Q := by
  have hn := hB.2.1
  have hx := hX.2.1
  have e11 : ∀ i, bgL Z i 0 1 1 = Z 1 1 := fun i => bgL_f (by omega) Z i 0 1
  intro n
  induction n with
  | zero =>
    intro i hi hQ
    refine bX3_begin_2 (by omega) (by rw [e11]; omega) (fun h => bX3_begin_58 ?_) (fun h => by rw [e11] at h; omega)
    rw [show bM b = i by omega] at hQ
    exact lX3_begin2 hB hX (bN b) 0 (by omega) hQ
  | succ n ih =>
    intro i hi hQ
    have e2 : ((i : Int)).toNat = i := by omega
    have e8 : bgL Z i 0 8 i = Z 8 i := bgL_f (by omega) Z i 0 i
    have e7 : bgL Z i 0 7 i = Z 7 i := bgL_f (by omega) Z i 0 i
    have h8 := (hX.2.2.2.1 i (by omega)).2.2.1
    have hb := (hB.2.2.2.1 i (by omega)).2.2.2.2.1
    refine bX3_begin_2 (by omega) (by rw [e11]; omega) (fun h => by rw [e11] at h; omega) (fun h => bX3_begin_13 (by omega) (by omega) (by rw [e2, e8, h8]; omega) (fun h => ?_) (fun h => ?_))
    · rw [e2, e8] at h
      refine bX3_begin_42 (by omega) (by omega) (by omega) (by omega) ?_
      rw [e2, bgL_r Z i _ (by rw [if_pos h])]
      exact ih (i + 1) (by omega) hQ
    · rw [e2, e8] at h
      refine bX3_begin_30 (by omega) (by omega) (by omega) (by omega) (by omega) (by omega) ?_
      rw [e2, e7, bgL_r Z i _ (by rw [if_neg h])]
      exact ih (i + 1) (by omega) hQ
theorem kX3_begin (hB : BR b) (hX : XB Z b) (k : ∀ Z', fr wkc Z Z' → WK b Z' (lim0 b) (bT b) (fun _ => 0) → K (jj_h Z' Y S)) : jj_Cv d mX3_begin [.ref 10] (jj_h Z Y S) K := by
  have hx0 := hX.1
  have hx1 := hX.2.1
  refine nX3_begin (bX3_begin_0 ?_)
  have := lX3_begin1 (d := d) (Y := Y) (S := S) (Q := fun r h1 => r = none ∧ K h1) hB hX (bM b) 0 (by omega) ⟨rfl, ?_⟩
  · rw [bgL_0] at this; exact this
  · refine k _ (fun a ha j => ?_) ⟨hX.fr (fun a ha j => ?_), fun t ht => ?_, fun r hr => ?_, ?_⟩
    · unfold wkc at ha
      rw [zu_ne (by omega), bgL_f (by omega)]
    · unfold xbc at ha
      rw [zu_ne (by omega), bgL_f (by omega)]
    · rw [zu_ne (by omega), zu_ne (by omega)]
      unfold bgL
      rw [if_neg (by omega), if_neg (by omega), if_pos ⟨rfl, ht⟩, if_neg (by omega), if_neg (by omega), if_neg (by omega), if_pos ⟨rfl, ht⟩]
      exact ⟨(hX.2.2.1 t ht).2, rfl⟩
    · rw [zu_ne (by omega), zu_ne (by omega)]
      have g1 : bgL Z (bM b) (bN b) 11 r = (if Z 8 r = 0 then 1000000 else Z 7 r) := by unfold bgL; exact if_pos ⟨rfl, hr⟩
      have g2 : bgL Z (bM b) (bN b) 13 r = 0 := by unfold bgL; rw [if_neg (by omega)]; exact if_pos ⟨rfl, hr⟩
      rw [g1, g2]
      refine ⟨?_, ?_⟩
      · have hx := hX.2.2.2.1 r hr
        unfold lim0
        rw [hx.2.1, hx.2.2.1]
      · rw [sf_congr (g := fun _ => 0) (bN b) 0 (fun i _ _ => by rw [Int.zero_mul]), sf_zero]
    · rw [zu_at, sf_congr (g := fun _ => 0) (bN b) 0 (fun i _ _ => by rw [Int.zero_mul]), sf_zero]
theorem kX3_loosen {r : Nat} {u : Int} (hB : BR b) (hr : r < bM b) (hW : WK b Z lim ms p) (k : ∀ Z', fr wkc Z Z' → WK b Z' (pu lim r (lim r + u)) ms p → K (jj_h Z' Y S)) : jj_Cv d mX3_loosen [.ref 10, iv (r : Int), iv u] (jj_h Z Y S) K := by
  have hm := hB.2.1
  have e2 : ((r : Int)).toNat = r := by omega
  obtain ⟨hX, h1, h2, h3⟩ := id hW
  refine nX3_loosen (bX3_loosen_0 (by omega) (by omega) (by omega) (by omega) ⟨rfl, ?_⟩)
  rw [e2, (h2 r hr).1]
  refine k _ (fun a ha j => ?_) ⟨hX.fr (fun a ha j => ?_), fun t ht => ?_, fun r' hr' => ?_, ?_⟩
  · unfold wkc at ha; rw [zu_ne (by omega)]
  · unfold xbc at ha; rw [zu_ne (by omega)]
  · rw [zu_ne (by omega), zu_ne (by omega)]; exact h1 t ht
  · rw [zu_ne (show ¬ 13 = 11 by omega)]
    refine ⟨?_, (h2 r' hr').2⟩
    by_cases e : r' = r
    · subst e; rw [zu_at, pu_at]
    · rw [zu_nk e, pu_ne lim _ e]; exact (h2 r' hr').1
  · rw [zu_ne (by omega)]; exact h3
theorem kX3_allowOneMore {t : Nat} (hB : BR b) (ht : t < bN b) (hW : WK b Z lim ms p) (k : ∀ Z', fr wkc Z Z' → WK b Z' lim (pu ms t (ms t + 1)) p → K (jj_h Z' Y S)) : jj_Cv d mX3_allowOneMore [.ref 10, iv (t : Int)] (jj_h Z Y S) K := by
  have hm := hB.1
  have e2 : ((t : Int)).toNat = t := by omega
  obtain ⟨hX, h1, h2, h3⟩ := id hW
  refine nX3_allowOneMore (bX3_allowOneMore_0 (by omega) (by omega) (by omega) (by omega) ⟨rfl, ?_⟩)
  rw [e2, (h1 t ht).1]
  refine k _ (fun a ha j => ?_) ⟨hX.fr (fun a ha j => ?_), fun t' ht' => ?_, fun r' hr' => ?_, ?_⟩
  · unfold wkc at ha; rw [zu_ne (by omega)]
  · unfold xbc at ha; rw [zu_ne (by omega)]
  · rw [zu_ne (show ¬ 14 = 12 by omega)]
    refine ⟨?_, (h1 t' ht').2⟩
    by_cases e : t' = t
    · subst e; rw [zu_at, pu_at]
    · rw [zu_nk e, pu_ne ms _ e]; exact (h1 t' ht').1
  · rw [zu_ne (by omega), zu_ne (by omega)]; exact h2 r' hr'
  · rw [zu_ne (by omega)]; exact h3
theorem lX3_goTo (hB : BR b) (hb : bd (bN b) (Z 26)) : ∀ (n t : Nat) (Z' : Nat → Nat → Int) (p : Nat → Int), t + n = bN b → fr wkc Z Z' → bd (bN b) p → WK b Z' lim ms p → (∀ u, u < t → p u = Z 26 u) → (∀ Z'' p', fr wkc Z Z'' → (∀ u, u < bN b → p' u = Z 26 u) → WK b Z'' lim ms p' → Q none (jj_h Z'' Y S)) → jj_Ex (d + 1) mX3_goTo 2 [.ref 10, .ref 26, iv (t : Int)] [] (jj_h Z' Y S) Q := by
  have hn := hB.1
  intro n
  induction n with
  | zero =>
    intro t Z' p ht hf hp hW hu hQ
    have hx := hW.1.1
    exact bX3_goTo_2 (by omega) (by omega) (fun h => bX3_goTo_34 (hQ Z' p hf (fun u hu' => hu u (by omega)) hW)) (fun h => by omega)
  | succ n ih =>
    intro t Z' p ht hf hp hW hu hQ
    have hx := hW.1.1
    have e2 : ((t : Int)).toNat = t := by omega
    have e26 : Z' 26 t = Z 26 t := hf 26 (by unfold wkc; omega) t
    have h14 := (hW.2.1 t (by omega)).2
    have b1 := hb t (by omega)
    have b2 := hp t (by omega)
    refine bX3_goTo_2 (by omega) (by omega) (fun h => by omega) (fun h => bX3_goTo_13 (by omega) (by omega) (by omega) (by omega) ?_)
    rw [e2, e26, h14]
    refine kX3_shift (by omega) hB (by omega) hW (fun Z'' f2 hW' => bX3_goTo_28 ?_)
    rw [show p t + (Z 26 t - p t) = Z 26 t by omega] at hW'
    refine ih (t + 1) Z'' _ (by omega) (hf.trans f2) (hp.pu b1) hW' (fun u hu' => ?_) hQ
    by_cases e : u = t
    · subst e; rw [pu_at]
    · rw [pu_ne p _ e]; exact hu u (by omega)
theorem kX3_goTo (hB : BR b) (hb : bd (bN b) (Z 26)) (hp : bd (bN b) p) (hW : WK b Z lim ms p) (k : ∀ Z' p', fr wkc Z Z' → (∀ u, u < bN b → p' u = Z 26 u) → WK b Z' lim ms p' → K (jj_h Z' Y S)) : jj_Cv (d + 1) mX3_goTo [.ref 10, .ref 26] (jj_h Z Y S) K :=
  nX3_goTo (bX3_goTo_0 (lX3_goTo hB hb (bN b) 0 Z p (by omega) fr.rf hp hW (fun u hu => by omega) (fun Z' p' f h hW' => ⟨rfl, k Z' p' f h hW'⟩)))
/-- the greatest of those that fit, step by step -/
def gf (b : Bk) (lim ms : Nat → Int) : Nat → (Nat → Int) → Int → Int
  | 0, _, g => g
  | k + 1, p, g => gf b lim ms k (od ms (bN b) p) (if g < vlp b p ∧ fo b lim p 0 (bM b) = -1000000 then vlp b p else g)
theorem lX3_greatestFitting (hB : BR b) (hm : bd (bN b) ms) (hl : ∀ r, r < bM b → i32 (lim r)) : ∀ (n : Nat) (Z : Nat → Nat → Int) (p : Nat → Int) (g : Int), n ≤ 100000 → -4000 ≤ g ∧ g ≤ 4000 → bd (bN b) p → WK b Z lim ms p → (∀ Z' x, fr wkc Z Z' → x = gf b lim ms n p g → Q (some (iv x)) (jj_h Z' Y S)) → jj_Ex (d + 3) mX3_greatestFitting 7 [.ref 10, iv g, iv (n : Int)] [] (jj_h Z Y S) Q := by
  intro n
  induction n with
  | zero =>
    intro Z p g hn hg hp hW hQ
    exact bX3_greatestFitting_7 (by omega) (fun h => bX3_greatestFitting_44 (hQ Z g fr.rf rfl)) (fun h => by omega)
  | succ n ih =>
    intro Z p g hn hg hp hW hQ
    have hv := vl_bound hB hp
    have hz : Z 10 5 = vlp b p := hW.2.2.2
    have next : ∀ g', -4000 ≤ g' ∧ g' ≤ 4000 → g' = (if g < vlp b p ∧ fo b lim p 0 (bM b) = -1000000 then vlp b p else g) → jj_Cv (d + 2) mX3_step [.ref 10] (jj_h Z Y S) (fun h1 => jj_Ex (d + 3) mX3_greatestFitting 38 [.ref 10, iv g', iv ((n + 1 : Nat) : Int)] [] h1 Q) := by
      intro g' hg' e
      refine kX3_step hB hm hp hW (fun Z' f1 hW' => bX3_greatestFitting_38 ?_)
      rw [show ((n + 1 : Nat) : Int) + (-1) = (n : Int) by omega]
      refine ih Z' _ g' (by omega) hg' (bd_od hm _ (Nat.le_refl _) hp) hW' (fun Z'' x f2 hx => hQ Z'' x (f1.trans f2) ?_)
      rw [hx, e]
      rfl
    refine bX3_greatestFitting_7 (by omega) (fun h => by omega) (fun h => bX3_greatestFitting_11 (by omega) (by omega) (fun h => bX3_greatestFitting_34 (next g hg ?_)) (fun h => bX3_greatestFitting_19 (kX3_firstOver (f := 0) hB hp hl (by omega) hW (bX3_greatestFitting_24 ?_ (fun h2 => bX3_greatestFitting_34 (next g hg ?_)) (fun h2 => bX3_greatestFitting_29 ?_)))))
    · rw [if_neg (by omega)]
    · have := fo_in b lim p (bM b - 0) 0
      have := hB.2.1
      omega
    · rw [if_neg (by rintro ⟨-, z⟩; exact h2 z)]
    · rw [hz]
      exact next _ (by omega) (by rw [if_pos ⟨by omega, h2⟩])
end WC

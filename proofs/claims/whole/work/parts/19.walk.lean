/-! the walk through the plans -/
def sf (f : Nat → Int) : Nat → Nat → Int
  | _, 0 => 0
  | k, n + 1 => f k + sf f (k + 1) n
theorem sf_congr {f g : Nat → Int} : ∀ (n k : Nat), (∀ i, k ≤ i → i < k + n → f i = g i) → sf f k n = sf g k n
  | 0, k, _ => rfl
  | n + 1, k, h => by
    show f k + sf f (k + 1) n = g k + sf g (k + 1) n
    rw [h k (by omega) (by omega), sf_congr n (k + 1) (fun i h1 h2 => h i (by omega) (by omega))]
theorem sf_zero : ∀ (n k : Nat), sf (fun _ => 0) k n = 0
  | 0, k => rfl
  | n + 1, k => by
    show 0 + sf (fun _ => 0) (k + 1) n = 0
    rw [sf_zero n (k + 1)]; rfl
def pu (p : Nat → Int) (t : Nat) (v : Int) : Nat → Int := fun u => if u = t then v else p u
theorem pu_at (p : Nat → Int) (t : Nat) (v : Int) : pu p t v t = v := if_pos rfl
theorem pu_ne (p : Nat → Int) {t u : Nat} (v : Int) (h : ¬ u = t) : pu p t v u = p u := if_neg h
theorem sf_pu (p g : Nat → Int) (t : Nat) (v : Int) : ∀ (n k : Nat), k ≤ t → t < k + n → sf (fun u => pu p t v u * g u) k n = sf (fun u => p u * g u) k n + (v - p t) * g t
  | 0, k, h1, h2 => by omega
  | n + 1, k, h1, h2 => by
    show pu p t v k * g k + sf (fun u => pu p t v u * g u) (k + 1) n = p k * g k + sf (fun u => p u * g u) (k + 1) n + (v - p t) * g t
    by_cases e : k = t
    · subst e
      rw [pu_at, sf_congr (f := fun u => pu p k v u * g u) (g := fun u => p u * g u) n (k + 1) (fun i h3 h4 => by rw [pu_ne p v (show ¬ i = k by omega)]), Int.sub_mul]
      omega
    · rw [pu_ne p v e, sf_pu p g t v n (k + 1) (by omega) (by omega)]
      omega
def wkc (a : Nat) : Prop := ¬ (10 ≤ a ∧ a ≤ 14)
/-- where the walk stands: limits, mosts, the plan; its sums go along -/
def WK (b : Bk) (Z : Nat → Nat → Int) (lim ms p : Nat → Int) : Prop := XB Z b ∧ (∀ t, t < bN b → Z 12 t = ms t ∧ Z 14 t = p t) ∧ (∀ r, r < bM b → Z 11 r = lim r ∧ Z 13 r = sf (fun t => p t * bF b r t) 0 (bN b)) ∧ Z 10 5 = sf (fun t => p t * bW b t) 0 (bN b)
theorem fr.rf {P : Nat → Prop} {Z : Nat → Nat → Int} : fr P Z Z := fun _ _ _ => rfl
theorem fr.trans {P : Nat → Prop} {Z Z' Z'' : Nat → Nat → Int} (h : fr P Z Z') (h' : fr P Z' Z'') : fr P Z Z'' := fun a ha k => (h' a ha k).trans (h a ha k)
theorem fr.mono {P P' : Nat → Prop} {Z Z' : Nat → Nat → Int} (h : fr P Z Z') (hp : ∀ a, P' a → P a) : fr P' Z Z' := fun a ha k => h a (hp a ha) k
theorem zu_ne {Z : Nat → Nat → Int} {a a' k k' : Nat} {v : Int} (h : ¬ a' = a) : zu Z a k v a' k' = Z a' k' := if_neg (fun q => h q.1)
theorem zu_at {Z : Nat → Nat → Int} {a k : Nat} {v : Int} : zu Z a k v a k = v := if_pos ⟨rfl, rfl⟩
theorem zu_nk {Z : Nat → Nat → Int} {a a' k k' : Nat} {v : Int} (h : ¬ k' = k) : zu Z a k v a' k' = Z a' k' := if_neg (fun q => h q.2)
section WA
variable {d : Nat} {Z Y : Nat → Nat → Int} {S : Nat × (Nat → Int32)} {K : jj_Hp → Prop} {Ki : Int → jj_Hp → Prop} {Q : Option Value → jj_Hp → Prop} {b : Bk} {lim ms p : Nat → Int}
theorem kJ9_min_7cf53 {x y : Int} (hx : i32 x) (hy : i32 y) (k : Ki (min x y) (jj_h Z Y S)) : jj_Ci d mJ9_min_7cf53 [iv x, iv y] (jj_h Z Y S) Ki := by
  refine nJ9_min_7cf53 (bJ9_min_7cf53_0 hx hy (fun h => bJ9_min_7cf53_9 ⟨_, rfl, ?_⟩) (fun h => bJ9_min_7cf53_5 ⟨_, rfl, ?_⟩))
  · rw [show min x y = y by omega] at k; exact k
  · rw [show min x y = x by omega] at k; exact k
theorem kJ9_max_7cf53 {x y : Int} (hx : i32 x) (hy : i32 y) (k : Ki (max x y) (jj_h Z Y S)) : jj_Ci d mJ9_max_7cf53 [iv x, iv y] (jj_h Z Y S) Ki := by
  refine nJ9_max_7cf53 (bJ9_max_7cf53_0 hx hy (fun h => bJ9_max_7cf53_9 ⟨_, rfl, ?_⟩) (fun h => bJ9_max_7cf53_5 ⟨_, rfl, ?_⟩))
  · rw [show max x y = y by omega] at k; exact k
  · rw [show max x y = x by omega] at k; exact k
/-- what shift has written when k of the rules are done -/
def shL (Z : Nat → Nat → Int) (t : Nat) (v : Int) (k : Nat) : Nat → Nat → Int := fun a j => if a = 13 ∧ j < k then Z 13 j + v * Z 9 (j * 4 + t) else if a = 10 ∧ j = 5 then Z 10 5 + v * Z 2 t else if a = 14 ∧ j = t then Z 14 t + v else Z a j
theorem shL_0 (Z : Nat → Nat → Int) (t : Nat) (v : Int) : zu (zu Z 14 t (Z 14 t + v)) 10 5 (Z 10 5 + v * Z 2 t) = shL Z t v 0 := by
  funext a j
  unfold zu shL
  rw [if_neg (show ¬ (a = 13 ∧ j < 0) by omega)]
theorem shL_s (Z : Nat → Nat → Int) (t : Nat) (v : Int) (k : Nat) : zu (shL Z t v k) 13 k (shL Z t v k 13 k + v * shL Z t v k 9 (k * 4 + t)) = shL Z t v (k + 1) := by
  funext a j
  have e1 : shL Z t v k 13 k = Z 13 k := by unfold shL; rw [if_neg (by omega), if_neg (by omega), if_neg (by omega)]
  have e2 : shL Z t v k 9 (k * 4 + t) = Z 9 (k * 4 + t) := by unfold shL; rw [if_neg (by omega), if_neg (by omega), if_neg (by omega)]
  rw [e1, e2]
  by_cases h : a = 13 ∧ j = k
  · obtain ⟨rfl, rfl⟩ := h
    rw [zu_at]
    unfold shL
    rw [if_pos ⟨rfl, by omega⟩]
  · have : zu (shL Z t v k) 13 k (Z 13 k + v * Z 9 (k * 4 + t)) a j = shL Z t v k a j := if_neg h
    rw [this]
    unfold shL
    by_cases h2 : a = 13 ∧ j < k
    · rw [if_pos h2, if_pos ⟨h2.1, by omega⟩]
    · rw [if_neg h2, if_neg (show ¬ (a = 13 ∧ j < k + 1) by omega)]
theorem shL_z (Z : Nat → Nat → Int) (t k : Nat) : shL Z t 0 k = Z := by
  funext a j
  unfold shL
  by_cases h1 : a = 13 ∧ j < k
  · rw [if_pos h1, h1.1]; omega
  · rw [if_neg h1]
    by_cases h2 : a = 10 ∧ j = 5
    · rw [if_pos h2, h2.1, h2.2]; omega
    · rw [if_neg h2]
      by_cases h3 : a = 14 ∧ j = t
      · rw [if_pos h3, h3.1, h3.2]; omega
      · rw [if_neg h3]
theorem shL_f {a : Nat} (h : ¬ (a = 10 ∨ a = 13 ∨ a = 14)) (Z : Nat → Nat → Int) (t : Nat) (v : Int) (k j : Nat) : shL Z t v k a j = Z a j := by
  unfold shL
  rw [if_neg (by omega), if_neg (by omega), if_neg (by omega)]
theorem lX3_shift {t : Nat} {v : Int} (ht : t < 4) (hm : 0 ≤ Z 1 1 ∧ Z 1 1 ≤ 6) : ∀ (n k : Nat), ((k + n : Nat) : Int) = Z 1 1 → Q none (jj_h (shL Z t v (Z 1 1).toNat) Y S) → jj_Ex d mX3_shift 37 [.ref 10, iv (t : Int), iv v, iv (k : Int)] [] (jj_h (shL Z t v k) Y S) Q := by
  have e11 : ∀ k, shL Z t v k 1 1 = Z 1 1 := fun k => shL_f (by omega) Z t v k 1
  intro n
  induction n with
  | zero =>
    intro k hk hQ
    refine bX3_shift_37 (by omega) (by rw [e11]; omega) (fun h => bX3_shift_78 ?_) (fun h => by rw [e11] at h; omega)
    rw [show (Z 1 1).toNat = k by omega] at hQ
    exact hQ
  | succ n ih =>
    intro k hk hQ
    refine bX3_shift_37 (by omega) (by rw [e11]; omega) (fun h => by rw [e11] at h; omega) (fun h => ?_)
    rw [e11] at h
    refine bX3_shift_48 (by omega) (by omega) (by omega) (by omega) (by omega) (by omega) ?_
    have e1 : ((k : Int) * 4 + (t : Int)).toNat = k * 4 + t := by omega
    have e2 : ((k : Int)).toNat = k := by omega
    rw [e1, e2, shL_s]
    exact ih (k + 1) (by omega) hQ
theorem kX3_shift {t : Nat} {v : Int} (hv : i32 v) (hB : BR b) (ht : t < bN b) (hW : WK b Z lim ms p) (k : ∀ Z', fr wkc Z Z' → WK b Z' lim ms (pu p t (p t + v)) → K (jj_h Z' Y S)) : jj_Cv d mX3_shift [.ref 10, iv (t : Int), iv v] (jj_h Z Y S) K := by
  obtain ⟨hX, h1, h2, h3⟩ := id hW
  have hn := hB.1
  have hm := hB.2.1
  have hx0 := hX.1
  have hx1 := hX.2.1
  have key : K (jj_h (shL Z t v (Z 1 1).toNat) Y S) := by
    have em : (Z 1 1).toNat = bM b := by omega
    rw [em]
    refine k _ (fun a ha j => shL_f (by unfold wkc at ha; omega) Z t v _ j) ⟨hX.fr (fun a ha j => shL_f (by unfold xbc at ha; omega) Z t v _ j), fun u hu => ?_, fun r hr => ?_, ?_⟩
    · refine ⟨by rw [shL_f (by omega)]; exact (h1 u hu).1, ?_⟩
      by_cases e : u = t
      · subst e
        rw [pu_at]
        unfold shL
        rw [if_neg (by omega), if_neg (by omega), if_pos ⟨rfl, rfl⟩, (h1 u hu).2]
      · rw [pu_ne p _ e]
        unfold shL
        rw [if_neg (by omega), if_neg (by omega), if_neg (by omega), (h1 u hu).2]
    · refine ⟨by rw [shL_f (by omega)]; exact (h2 r hr).1, ?_⟩
      rw [sf_pu p (fun t => bF b r t) t _ (bN b) 0 (by omega) (by omega), ← (h2 r hr).2]
      unfold shL
      rw [if_pos ⟨rfl, hr⟩, hX.2.2.2.2 r t (by omega) (by omega)]
      rw [show p t + v - p t = v by omega]
    · rw [sf_pu p (fun t => bW b t) t _ (bN b) 0 (by omega) (by omega), ← h3]
      unfold shL
      rw [if_neg (by omega), if_pos ⟨rfl, rfl⟩, (hX.2.2.1 t ht).1]
      rw [show p t + v - p t = v by omega]
  refine nX3_shift (bX3_shift_0 hv (fun h => ?_) (fun h => bX3_shift_4 ⟨rfl, ?_⟩))
  · refine bX3_shift_5 (by omega) (by omega) (by omega) (by omega) (by omega) (by omega) ?_
    have e2 : ((t : Int)).toNat = t := by omega
    rw [e2, shL_0]
    exact lX3_shift (by omega) (by omega) (Z 1 1).toNat 0 (by omega) ⟨rfl, key⟩
  · subst h
    rw [shL_z] at key
    exact key
end WA

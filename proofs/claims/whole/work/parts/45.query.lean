/-! fractions; what the class asks its corners -/
theorem q_trans {a b c d e f : Int} (hd : 0 < d) (hb : 0 ≤ b) (hf : 0 ≤ f) (h1 : a * d ≤ c * b) (h2 : c * f ≤ e * d) : a * f ≤ e * b := by
  have e1 : a * d * f ≤ c * b * f := Int.mul_le_mul_of_nonneg_right h1 hf
  have e2 : c * f * b ≤ e * d * b := Int.mul_le_mul_of_nonneg_right h2 hb
  have e3 : c * b * f = c * f * b := by rw [Int.mul_assoc, Int.mul_comm b f, ← Int.mul_assoc]
  have e4 : d * (a * f) = a * d * f := by rw [Int.mul_comm a d, Int.mul_assoc]
  have e5 : d * (e * b) = e * d * b := by rw [Int.mul_comm e d, Int.mul_assoc]
  exact Int.le_of_mul_le_mul_left (a := d) (by omega) hd
theorem frac_nat {n d n' d' : Nat} (hd : 0 < d) (hd' : 0 < d') (h : n * d' = n' * d) : n / Nat.gcd n d = n' / Nat.gcd n' d' ∧ d / Nat.gcd n d = d' / Nat.gcd n' d' := by
  have g0 : 0 < Nat.gcd n d := Nat.gcd_pos_of_pos_right n hd
  have g0' : 0 < Nat.gcd n' d' := Nat.gcd_pos_of_pos_right n' hd'
  have c := Nat.coprime_div_gcd_div_gcd g0
  have c' := Nat.coprime_div_gcd_div_gcd g0'
  have e1 : Nat.gcd n d * (n / Nat.gcd n d) = n := Nat.mul_div_cancel' (Nat.gcd_dvd_left n d)
  have e2 : Nat.gcd n d * (d / Nat.gcd n d) = d := Nat.mul_div_cancel' (Nat.gcd_dvd_right n d)
  have e3 : Nat.gcd n' d' * (n' / Nat.gcd n' d') = n' := Nat.mul_div_cancel' (Nat.gcd_dvd_left n' d')
  have e4 : Nat.gcd n' d' * (d' / Nat.gcd n' d') = d' := Nat.mul_div_cancel' (Nat.gcd_dvd_right n' d')
  generalize Nat.gcd n d = g at *
  generalize Nat.gcd n' d' = g' at *
  generalize n / g = a at *
  generalize d / g = b at *
  generalize n' / g' = a' at *
  generalize d' / g' = b' at *
  have hb : 0 < b := by
    rcases Nat.eq_zero_or_pos b with z | z
    · rw [z, Nat.mul_zero] at e2; omega
    · exact z
  have e5 : a * b' = a' * b := by
    rw [← e1, ← e2, ← e3, ← e4] at h
    have : (g * g') * (a * b') = (g * g') * (a' * b) := by
      rw [Nat.mul_mul_mul_comm, h, Nat.mul_mul_mul_comm g' a' g b, Nat.mul_comm g' g]
    exact Nat.eq_of_mul_eq_mul_left (Nat.mul_pos g0 g0') this
  have d1 : b ∣ b' := Nat.Coprime.dvd_of_dvd_mul_left c.symm ⟨a', by rw [e5, Nat.mul_comm]⟩
  have d2 : b' ∣ b := Nat.Coprime.dvd_of_dvd_mul_left c'.symm ⟨a, by rw [← e5, Nat.mul_comm]⟩
  have e6 : b = b' := Nat.dvd_antisymm d1 d2
  subst e6
  exact ⟨Nat.eq_of_mul_eq_mul_right hb e5, rfl⟩
/-- one part of a fraction in lowest terms -/
def lowt (n d : Int) (below : Int) : Int := if below = 0 then n / ((Nat.gcd n.toNat d.toNat : Nat) : Int) else d / ((Nat.gcd n.toNat d.toNat : Nat) : Int)
theorem lowt_eq {n d n' d' below : Int} (hn : 0 ≤ n) (hn' : 0 ≤ n') (hd : 0 < d) (hd' : 0 < d') (h : n * d' = n' * d) : lowt n d below = lowt n' d' below := by
  obtain ⟨a, rfl⟩ := Int.eq_ofNat_of_zero_le hn
  obtain ⟨a', rfl⟩ := Int.eq_ofNat_of_zero_le hn'
  obtain ⟨b, rfl⟩ := Int.eq_ofNat_of_zero_le (show 0 ≤ d by omega)
  obtain ⟨b', rfl⟩ := Int.eq_ofNat_of_zero_le (show 0 ≤ d' by omega)
  have h' : a * b' = a' * b := by exact_mod_cast h
  have k := frac_nat (n := a) (d := b) (n' := a') (d' := b') (by omega) (by omega) h'
  unfold lowt
  simp only [Int.toNat_natCast]
  by_cases e : below = 0
  · rw [if_pos e, if_pos e, ← Int.natCast_ediv, ← Int.natCast_ediv, k.1]
  · rw [if_neg e, if_neg e, ← Int.natCast_ediv, ← Int.natCast_ediv, k.2]
theorem lowt_in {n d below : Int} (hn : 0 ≤ n) (hd : 0 < d) : 0 ≤ lowt n d below ∧ (lowt n d below ≤ n ∨ lowt n d below ≤ d) := by
  obtain ⟨a, rfl⟩ := Int.eq_ofNat_of_zero_le hn
  obtain ⟨b, rfl⟩ := Int.eq_ofNat_of_zero_le (show 0 ≤ d by omega)
  unfold lowt
  simp only [Int.toNat_natCast]
  split
  · rw [← Int.natCast_ediv]
    have := Nat.div_le_self a (Nat.gcd a b)
    generalize a / Nat.gcd a b = z at *
    omega
  · rw [← Int.natCast_ediv]
    have := Nat.div_le_self b (Nat.gcd a b)
    generalize b / Nat.gcd a b = z at *
    omega
section QU
variable {d : Nat} {Z Y : Nat → Nat → Int} {S : Nat × (Nat → Int32)} {Q : Option Value → jj_Hp → Prop} {K : jj_Hp → Prop} {Ki Kl : Int → jj_Hp → Prop} {b : Bk}
theorem lX4_cd : ∀ (m a c st : Nat) (v5 v6 : Value), c < 2 ^ m → st + 2 * m < 200 → a ≤ 1000000000000000 → c ≤ 1000000000000000 → Q (some (lv ((Nat.gcd a c : Nat) : Int))) (jj_h Z Y S) → jj_Ex d mX4_commonDivisor 3 [lv (a : Int), .null, lv (c : Int), .null, iv (st : Int), v5, v6] [] (jj_h Z Y S) Q := by
  have stop : ∀ (a st : Nat) (v5 v6 : Value), st < 200 → Q (some (lv ((a : Nat) : Int))) (jj_h Z Y S) → jj_Ex d mX4_commonDivisor 3 [lv (a : Int), .null, lv 0, .null, iv (st : Int), v5, v6] [] (jj_h Z Y S) Q := fun a st v5 v6 hst hQ => bX4_commonDivisor_3 (by omega) (fun z => by omega) (fun _ => bX4_commonDivisor_11 (by omega) (fun _ => bX4_commonDivisor_33 hQ) (fun z => absurd rfl z))
  have step : ∀ (a c st : Nat) (v5 v6 : Value), 0 < c → st < 200 → a ≤ 1000000000000000 → c ≤ 1000000000000000 → (∀ v5 v6, jj_Ex d mX4_commonDivisor 3 [lv (c : Int), .null, lv ((a % c : Nat) : Int), .null, iv ((st + 1 : Nat) : Int), v5, v6] [] (jj_h Z Y S) Q) → jj_Ex d mX4_commonDivisor 3 [lv (a : Int), .null, lv (c : Int), .null, iv (st : Int), v5, v6] [] (jj_h Z Y S) Q := fun a c st v5 v6 hc hst ha hc2 k => bX4_commonDivisor_3 (by omega) (fun z => by omega) (fun _ => bX4_commonDivisor_11 (by omega) (fun z => by omega) (fun _ => bX4_commonDivisor_17 (by omega) (by omega) (by rw [show (a : Int) % (c : Int) = ((a % c : Nat) : Int) from rfl]; exact k _ _)))
  intro m
  induction m with
  | zero =>
    intro a c st v5 v6 hc hst ha hc2 hQ
    have : c = 0 := by omega
    subst this
    rw [Nat.gcd_zero_right] at hQ
    exact stop a st v5 v6 (by omega) hQ
  | succ m ih =>
    intro a c st v5 v6 hc hst ha hc2 hQ
    by_cases c0 : c = 0
    · subst c0
      rw [Nat.gcd_zero_right] at hQ
      exact stop a st v5 v6 (by omega) hQ
    · have e1 : Nat.gcd a c = Nat.gcd c (a % c) := by rw [Nat.gcd_comm a c, Nat.gcd_rec, Nat.gcd_comm]
      have hr := Nat.mod_lt a (show 0 < c by omega)
      rw [e1] at hQ
      refine step a c st v5 v6 (by omega) (by omega) ha hc2 (fun v5 v6 => ?_)
      by_cases r0 : a % c = 0
      · rw [r0] at hQ ⊢
        rw [Nat.gcd_zero_right] at hQ
        exact stop c (st + 1) v5 v6 (by omega) hQ
      · have e2 : Nat.gcd c (a % c) = Nat.gcd (a % c) (c % (a % c)) := by rw [Nat.gcd_comm c, Nat.gcd_rec, Nat.gcd_comm]
        rw [e2] at hQ
        have hr2 := Nat.mod_lt c (show 0 < a % c by omega)
        have hr3 : c % (a % c) + (a % c) ≤ c := by
          have h1 := Nat.div_add_mod c (a % c)
          have h2 : 1 ≤ c / (a % c) := Nat.div_pos (by omega) (by omega)
          have h3 : (a % c) * 1 ≤ (a % c) * (c / (a % c)) := Nat.mul_le_mul_left _ h2
          omega
        refine step c (a % c) (st + 1) v5 v6 (by omega) (by omega) (by omega) (by omega) (fun v5 v6 => ?_)
        rw [Nat.pow_succ] at hc
        exact ih (a % c) (c % (a % c)) (st + 1 + 1) v5 v6 (by omega) (by omega) (by omega) (by omega) hQ
theorem kX4_inLowestTerms {n e below : Int} (hn : 0 ≤ n ∧ n ≤ 1000000000000000) (he : 0 < e ∧ e ≤ 200000) (hb : below = 0 ∨ below = 1) (k : Kl (lowt n e below) (jj_h Z Y S)) : jj_Cl (d + 1) mX4_inLowestTerms [lv n, lv e, iv below] (jj_h Z Y S) Kl := by
  obtain ⟨a, rfl⟩ := Int.eq_ofNat_of_zero_le hn.1
  obtain ⟨c, rfl⟩ := Int.eq_ofNat_of_zero_le (show 0 ≤ e by omega)
  have hg : 0 < Nat.gcd a c := Nat.gcd_pos_of_pos_right a (by omega)
  have hg2 : Nat.gcd a c ≤ c := Nat.gcd_le_right a (by omega)
  unfold lowt at k
  simp only [Int.toNat_natCast] at k
  refine nX4_inLowestTerms (bX4_inLowestTerms_0 (kJ9_abs (by omega) (bX4_inLowestTerms_4 ?_)))
  rw [show sgn (a : Int) * (a : Int) = (a : Int) by unfold sgn; rw [if_neg (by omega), Int.one_mul]]
  refine nX4_commonDivisor (bX4_commonDivisor_0 (lX4_cd 18 a c 0 _ _ (by omega) (by omega) (by omega) (by omega) ⟨_, rfl, bX4_inLowestTerms_8 (by omega) (fun _ => bX4_inLowestTerms_28 (by omega) (fun e0 => bX4_inLowestTerms_37 (by omega) (by omega) ⟨_, rfl, ?_⟩) (fun e0 => bX4_inLowestTerms_33 (by omega) (by omega) ⟨_, rfl, ?_⟩)) (fun z => by omega)⟩))
  · rw [if_pos e0] at k; exact k
  · rw [if_neg e0] at k; exact k
/-- what the corners are, as far as they are asked -/
def BP (n : Nat) (s p e : Nat → Int) : Prop := ∀ i, i < n → (0 ≤ s i ∧ s i ≤ 15000000000) ∧ (0 ≤ p i ∧ p i ≤ 1732104) ∧ (0 < e i ∧ e i ≤ 157464)
theorem mul_in {x y cx cy : Int} (hx : 0 ≤ x ∧ x ≤ cx) (hy : 0 ≤ y ∧ y ≤ cy) : 0 ≤ x * y ∧ x * y ≤ cx * cy :=
  ⟨Int.mul_nonneg hx.1 hy.1, Int.le_trans (Int.mul_le_mul_of_nonneg_left hy.2 hx.1) (Int.mul_le_mul_of_nonneg_right hx.2 (by omega))⟩
theorem BP.se {n : Nat} {s p e : Nat → Int} (h : BP n s p e) {i j : Nat} (hi : i < n) (hj : j < n) : 0 ≤ s i * e j ∧ s i * e j ≤ 2361960000000000 := by
  have := mul_in (h i hi).1 (show 0 ≤ e j ∧ e j ≤ 157464 by have := (h j hj).2.2; omega)
  omega
theorem BP.pe {n : Nat} {s p e : Nat → Int} (h : BP n s p e) {i j : Nat} (hi : i < n) (hj : j < n) : 0 ≤ p i * e j ∧ p i * e j ≤ 272744024256 := by
  have := mul_in (h i hi).2.1 (show 0 ≤ e j ∧ e j ≤ 157464 by have := (h j hj).2.2; omega)
  omega
theorem kX1_boundAbove {i j : Nat} (hi : i < 210) (hj : j < 210) (k : Kl (Y 21 i * Y 22 j - Y 21 j * Y 22 i) (jj_h Z Y S)) : jj_Cl d mX1_boundAbove [.ref 20, iv (i : Int), iv (j : Int)] (jj_h Z Y S) Kl :=
  nX1_boundAbove (bX1_boundAbove_0 (by omega) (by omega) (by omega) (by omega) (by omega) (by omega) (by omega) (by omega) ⟨_, rfl, k⟩)
theorem kX1_slopeBelow {i j r : Nat} (hi : i < 210) (hj : j < 210) (hr : r < 6) (k : Kl (Y 23 (j * 6 + r) * Y 22 i - Y 23 (i * 6 + r) * Y 22 j) (jj_h Z Y S)) : jj_Cl (d + 1) mX1_slopeBelow [.ref 20, iv (i : Int), iv (j : Int), iv (r : Int)] (jj_h Z Y S) Kl :=
  nX1_slopeBelow (bX1_slopeBelow_0 (kX1_slope hj hr (bX1_slopeBelow_6 (by omega) (by omega) (kX1_slope hi hr (bX1_slopeBelow_19 (by omega) (by omega) ⟨_, rfl, k⟩)))))
theorem lX1_leastBound {n : Nat} {p : Nat → Int} (hn : Z 20 0 = (n : Int)) (h210 : n ≤ 210) (hP : BP n (Y 21) p (Y 22)) (k : ∀ j, j < n → (∀ i, i < n → Y 21 j * Y 22 i ≤ Y 21 i * Y 22 j) → Q (some (iv (j : Int))) (jj_h Z Y S)) : ∀ (m i j : Nat), i + m = n → j < i → (∀ i', i' < i → Y 21 j * Y 22 i' ≤ Y 21 i' * Y 22 j) → jj_Ex (d + 1) mX1_leastBound 4 [.ref 20, iv (j : Int), iv (i : Int)] [] (jj_h Z Y S) Q := by
  intro m
  induction m with
  | zero =>
    intro i j hi hj h
    exact bX1_leastBound_4 (by omega) (by omega) (fun _ => bX1_leastBound_31 (k j (by omega) (fun i' hi' => h i' (by omega)))) (fun z => by omega)
  | succ m ih =>
    intro i j hi hj h
    have b1 := hP.se (i := i) (j := j) (by omega) (by omega)
    have b2 := hP.se (i := j) (j := i) (by omega) (by omega)
    refine bX1_leastBound_4 (by omega) (by omega) (fun z => by omega) (fun _ => bX1_leastBound_12 (kX1_boundAbove (by omega) (by omega) (bX1_leastBound_18 (by omega) (fun e => bX1_leastBound_25 (ih (i + 1) j (by omega) (by omega) (fun i' hi' => ?_))) (fun e => bX1_leastBound_23 (ih (i + 1) i (by omega) (by omega) (fun i' hi' => ?_))))))
    · by_cases e2 : i' = i
      · subst e2; omega
      · exact h i' (by omega)
    · by_cases e2 : i' = i
      · subst e2; exact Int.le_refl _
      · have a := (hP i (by omega)).2.2
        have a1 := (hP j (by omega)).2.2
        have a2 := (hP i' (by omega)).2.2
        exact q_trans (d := Y 22 j) (c := Y 21 j) (by omega) (by omega) (by omega) (by omega) (h i' (by omega))
theorem kX1_leastBound {n : Nat} {p : Nat → Int} (hn : Z 20 0 = (n : Int)) (h210 : n ≤ 210) (h1 : 0 < n) (hP : BP n (Y 21) p (Y 22)) (k : ∀ j, j < n → (∀ i, i < n → Y 21 j * Y 22 i ≤ Y 21 i * Y 22 j) → Ki (j : Int) (jj_h Z Y S)) : jj_Ci (d + 1) mX1_leastBound [.ref 20] (jj_h Z Y S) Ki :=
  nX1_leastBound (bX1_leastBound_0 (lX1_leastBound hn h210 hP (fun j hj h => ⟨_, rfl, k j hj h⟩) (n - 1) 1 0 (by omega) (by omega) (fun i' hi' => by rw [show i' = 0 by omega]; exact Int.le_refl _)))
/-- not above: the bound, and with the same bound the price -/
def qle (s p e s' p' e' : Int) : Prop := s * e' < s' * e ∨ (s * e' = s' * e ∧ p * e' ≤ p' * e)
theorem qle_trans {s p e s1 p1 e1 s2 p2 e2 : Int} (he : 0 < e) (he1 : 0 < e1) (he2 : 0 < e2) (h : qle s p e s1 p1 e1) (h' : qle s1 p1 e1 s2 p2 e2) : qle s p e s2 p2 e2 := by
  have l1 : s * e1 ≤ s1 * e := by rcases h with h | h <;> omega
  have l2 : s1 * e2 ≤ s2 * e1 := by rcases h' with h | h <;> omega
  have l3 : s * e2 ≤ s2 * e := q_trans he1 (by omega) (by omega) l1 l2
  by_cases eq : s * e2 = s2 * e
  · -- all three the same bound
    have r2 : s1 * e ≤ s * e1 := q_trans (c := s2) (d := e2) he2 (by omega) (by omega) l2 (by omega)
    have r3 : s2 * e1 ≤ s1 * e2 := q_trans (c := s) (d := e) he (by omega) (by omega) (by omega) l1
    have a1 : p * e1 ≤ p1 * e := by rcases h with h | h <;> omega
    have a2 : p1 * e2 ≤ p2 * e1 := by rcases h' with h | h <;> omega
    exact Or.inr ⟨eq, q_trans he1 (by omega) (by omega) a1 a2⟩
  · exact Or.inl (by omega)
theorem lX1_flat {n r : Nat} (hr : r < 6) (hn : Z 20 0 = (n : Int)) (h210 : n ≤ 210) (hP : BP n (Y 21) (fun i => Y 23 (i * 6 + r)) (Y 22)) (k : ∀ j, j < n → (∀ i, i < n → qle (Y 21 j) (Y 23 (j * 6 + r)) (Y 22 j) (Y 21 i) (Y 23 (i * 6 + r)) (Y 22 i)) → Q (some (iv (j : Int))) (jj_h Z Y S)) : ∀ (m i j : Nat) (v4 v5 : Value), i + m = n → j < i → (∀ i', i' < i → qle (Y 21 j) (Y 23 (j * 6 + r)) (Y 22 j) (Y 21 i') (Y 23 (i' * 6 + r)) (Y 22 i')) → jj_Ex (d + 2) mX1_leastBoundFlattest 4 [.ref 20, iv (r : Int), iv (j : Int), iv (i : Int), v4, v5] [] (jj_h Z Y S) Q := by
  intro m
  induction m with
  | zero =>
    intro i j v4 v5 hi hj h
    exact bX1_leastBoundFlattest_4 (by omega) (by omega) (fun _ => bX1_leastBoundFlattest_54 (k j (by omega) (fun i' hi' => h i' (by omega)))) (fun z => by omega)
  | succ m ih =>
    intro i j v4 v5 hi hj h
    have b1 := hP.se (i := i) (j := j) (by omega) (by omega)
    have b2 := hP.se (i := j) (j := i) (by omega) (by omega)
    have b3 := hP.pe (i := i) (j := j) (by omega) (by omega)
    have b4 := hP.pe (i := j) (j := i) (by omega) (by omega)
    have a := (hP i (by omega)).2.2
    have a1 := (hP j (by omega)).2.2
    have keep : qle (Y 21 j) (Y 23 (j * 6 + r)) (Y 22 j) (Y 21 i) (Y 23 (i * 6 + r)) (Y 22 i) → ∀ v4 v5, jj_Ex (d + 2) mX1_leastBoundFlattest 4 [.ref 20, iv (r : Int), iv (j : Int), iv ((i : Int) + 1), v4, v5] [] (jj_h Z Y S) Q := fun hq v4 v5 => ih (i + 1) j v4 v5 (by omega) (by omega) (fun i' hi' => by
      by_cases e2 : i' = i
      · subst e2; exact hq
      · exact h i' (by omega))
    have take : qle (Y 21 i) (Y 23 (i * 6 + r)) (Y 22 i) (Y 21 j) (Y 23 (j * 6 + r)) (Y 22 j) → ∀ v4 v5, jj_Ex (d + 2) mX1_leastBoundFlattest 4 [.ref 20, iv (r : Int), iv (i : Int), iv ((i : Int) + 1), v4, v5] [] (jj_h Z Y S) Q := fun hq v4 v5 => ih (i + 1) i v4 v5 (by omega) (by omega) (fun i' hi' => by
      by_cases e2 : i' = i
      · subst e2; exact Or.inr ⟨rfl, Int.le_refl _⟩
      · have a2 := (hP i' (by omega)).2.2
        exact qle_trans (by omega) (by omega) (by omega) hq (h i' (by omega)))
    refine bX1_leastBoundFlattest_4 (by omega) (by omega) (fun z => by omega) (fun _ => bX1_leastBoundFlattest_12 (kX1_boundAbove (by omega) (by omega) (bX1_leastBoundFlattest_18 (by omega) (fun e => bX1_leastBoundFlattest_46 (take (Or.inl (by omega)) _ _)) (fun e => bX1_leastBoundFlattest_27 (by omega) (fun e2 => bX1_leastBoundFlattest_48 (keep (Or.inl (by omega)) _ _)) (fun e2 => bX1_leastBoundFlattest_34 (kX1_slopeBelow (by omega) (by omega) hr (bX1_leastBoundFlattest_41 (by omega) (fun e3 => bX1_leastBoundFlattest_48 (keep (Or.inr ⟨by omega, by omega⟩) _ _)) (fun e3 => bX1_leastBoundFlattest_46 (take (Or.inr ⟨by omega, by omega⟩) _ _)))))))))
theorem kX1_flat {n r : Nat} (hr : r < 6) (hn : Z 20 0 = (n : Int)) (h210 : n ≤ 210) (h1 : 0 < n) (hP : BP n (Y 21) (fun i => Y 23 (i * 6 + r)) (Y 22)) (k : ∀ j, j < n → (∀ i, i < n → qle (Y 21 j) (Y 23 (j * 6 + r)) (Y 22 j) (Y 21 i) (Y 23 (i * 6 + r)) (Y 22 i)) → Ki (j : Int) (jj_h Z Y S)) : jj_Ci (d + 2) mX1_leastBoundFlattest [.ref 20, iv (r : Int)] (jj_h Z Y S) Ki :=
  nX1_leastBoundFlattest (bX1_leastBoundFlattest_0 (lX1_flat hr hn h210 hP (fun j hj h => ⟨_, rfl, k j hj h⟩) (n - 1) 1 0 _ _ (by omega) (by omega) (fun i' hi' => by rw [show i' = 0 by omega]; exact Or.inr ⟨rfl, Int.le_refl _⟩)))
theorem lX1_reach {n r j : Nat} (hr : r < 6) (hj : j < n) (hn : Z 20 0 = (n : Int)) (h210 : n ≤ 210) (hP : BP n (Y 21) (fun i => Y 23 (i * 6 + r)) (Y 22)) (hl : ∀ i, i < n → Y 21 j * Y 22 i ≤ Y 21 i * Y 22 j) (k : ∀ m : Int, (0 ≤ m ∧ m ≤ 400) → (∀ i, i < n → 0 < Y 23 (j * 6 + r) * Y 22 i - Y 23 (i * 6 + r) * Y 22 j → m ≤ (Y 21 i * Y 22 j - Y 21 j * Y 22 i) / (Y 23 (j * 6 + r) * Y 22 i - Y 23 (i * 6 + r) * Y 22 j)) → (m = 400 ∨ ∃ i, i < n ∧ 0 < Y 23 (j * 6 + r) * Y 22 i - Y 23 (i * 6 + r) * Y 22 j ∧ m = (Y 21 i * Y 22 j - Y 21 j * Y 22 i) / (Y 23 (j * 6 + r) * Y 22 i - Y 23 (i * 6 + r) * Y 22 j)) → Q (some (iv m)) (jj_h Z Y S)) : ∀ (c i : Nat) (m : Int) (v6 v7 : Value), i + c = n → (0 ≤ m ∧ m ≤ 400) → (∀ i', i' < i → 0 < Y 23 (j * 6 + r) * Y 22 i' - Y 23 (i' * 6 + r) * Y 22 j → m ≤ (Y 21 i' * Y 22 j - Y 21 j * Y 22 i') / (Y 23 (j * 6 + r) * Y 22 i' - Y 23 (i' * 6 + r) * Y 22 j)) → (m = 400 ∨ ∃ i', i' < i ∧ 0 < Y 23 (j * 6 + r) * Y 22 i' - Y 23 (i' * 6 + r) * Y 22 j ∧ m = (Y 21 i' * Y 22 j - Y 21 j * Y 22 i') / (Y 23 (j * 6 + r) * Y 22 i' - Y 23 (i' * 6 + r) * Y 22 j)) → jj_Ex (d + 2) mX1_reach 7 [.ref 20, iv (j : Int), iv (r : Int), lv m, .null, iv (i : Int), v6, v7] [] (jj_h Z Y S) Q := by
  intro c
  induction c with
  | zero =>
    intro i m v6 v7 hi hm h1 h2
    refine bX1_reach_7 (by omega) (by omega) (fun _ => bX1_reach_54 (k m hm (fun i' hi' => h1 i' (by omega)) ?_)) (fun z => by omega)
    rcases h2 with h2 | ⟨i', a, b, c⟩
    · exact Or.inl h2
    · exact Or.inr ⟨i', by omega, b, c⟩
  | succ c ih =>
    intro i m v6 v7 hi hm h1 h2
    have b1 := hP.se (i := i) (j := j) (by omega) (by omega)
    have b2 := hP.se (i := j) (j := i) (by omega) (by omega)
    have b3 := hP.pe (i := i) (j := j) (by omega) (by omega)
    have b4 := hP.pe (i := j) (j := i) (by omega) (by omega)
    have hlj := hl i (by omega)
    refine bX1_reach_7 (by omega) (by omega) (fun z => by omega) (fun _ => bX1_reach_16 (kX1_slopeBelow (by omega) (by omega) hr (bX1_reach_24 (by omega) (fun e => bX1_reach_48 (ih (i + 1) m _ _ (by omega) hm (fun i' hi' hp => ?_) ?_)) (fun e => bX1_reach_33 (kX1_boundAbove (by omega) (by omega) (bX1_reach_41 (by omega) (by omega) ?_))))))
    · by_cases e2 : i' = i
      · subst e2; omega
      · exact h1 i' (by omega) hp
    · rcases h2 with h2 | ⟨i', a, b, c⟩
      · exact Or.inl h2
      · exact Or.inr ⟨i', by omega, b, c⟩
    · have q0 : 0 ≤ (Y 21 i * Y 22 j - Y 21 j * Y 22 i) / (Y 23 (j * 6 + r) * Y 22 i - Y 23 (i * 6 + r) * Y 22 j) := Int.ediv_nonneg (by omega) (by omega)
      have q1 : (Y 21 i * Y 22 j - Y 21 j * Y 22 i) / (Y 23 (j * 6 + r) * Y 22 i - Y 23 (i * 6 + r) * Y 22 j) ≤ Y 21 i * Y 22 j - Y 21 j * Y 22 i := Int.ediv_le_self _ (by omega)
      refine kJ9_minl (by omega) (by omega) (bX1_reach_47 (ih (i + 1) _ _ _ (by omega) (by omega) (fun i' hi' hp => ?_) ?_))
      · by_cases e2 : i' = i
        · subst e2; omega
        · have := h1 i' (by omega) hp
          omega
      · by_cases e3 : m ≤ (Y 21 i * Y 22 j - Y 21 j * Y 22 i) / (Y 23 (j * 6 + r) * Y 22 i - Y 23 (i * 6 + r) * Y 22 j)
        · rw [show min m ((Y 21 i * Y 22 j - Y 21 j * Y 22 i) / (Y 23 (j * 6 + r) * Y 22 i - Y 23 (i * 6 + r) * Y 22 j)) = m by omega]
          rcases h2 with h2 | ⟨i', a, b, c⟩
          · exact Or.inl h2
          · exact Or.inr ⟨i', by omega, b, c⟩
        · exact Or.inr ⟨i, by omega, by omega, by omega⟩
end QU

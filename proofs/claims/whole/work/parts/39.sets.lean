/-! those of 0, 1, .. that are of a kind, one after the other -/
def fl (φ : Nat → Bool) (n : Nat) : List Nat := (List.range n).filter φ
def fp (φ : Nat → Bool) (n : Nat) : Nat := (fl φ n).length
def gd (φ : Nat → Bool) (n c : Nat) : Nat := (fl φ n).getD c 0
theorem fl_y {φ : Nat → Bool} {n : Nat} (h : φ n = true) : fl φ (n + 1) = fl φ n ++ [n] := by
  unfold fl
  rw [List.range_succ, List.filter_append]
  congr 1
  simp [h]
theorem fl_n {φ : Nat → Bool} {n : Nat} (h : φ n = false) : fl φ (n + 1) = fl φ n := by
  unfold fl
  rw [List.range_succ, List.filter_append]
  simp [h]
theorem fp_0 (φ : Nat → Bool) : fp φ 0 = 0 := rfl
theorem fp_y {φ : Nat → Bool} {n : Nat} (h : φ n = true) : fp φ (n + 1) = fp φ n + 1 := by
  unfold fp
  rw [fl_y h, List.length_append]; rfl
theorem fp_n {φ : Nat → Bool} {n : Nat} (h : φ n = false) : fp φ (n + 1) = fp φ n := by
  unfold fp
  rw [fl_n h]
theorem bcs (φ : Nat → Bool) (n : Nat) : φ n = true ∨ φ n = false := by
  cases φ n
  · exact Or.inr rfl
  · exact Or.inl rfl
theorem fp_le (φ : Nat → Bool) : ∀ n, fp φ n ≤ n
  | 0 => Nat.le_refl _
  | n + 1 => by
    have := fp_le φ n
    rcases bcs φ n with h | h
    · rw [fp_y h]; omega
    · rw [fp_n h]; omega
theorem fp_mono (φ : Nat → Bool) {a : Nat} : ∀ {c : Nat}, a ≤ c → fp φ a ≤ fp φ c
  | 0, h => by rw [show a = 0 by omega]; exact Nat.le_refl _
  | c + 1, h => by
    by_cases e : a = c + 1
    · rw [e]; exact Nat.le_refl _
    · have := fp_mono φ (a := a) (c := c) (by omega)
      rcases bcs φ c with h | h
      · rw [fp_y h]; omega
      · rw [fp_n h]; exact this
theorem fp_lt {φ : Nat → Bool} {a c : Nat} (h : φ a = true) (hac : a < c) : fp φ a < fp φ c := by
  have := fp_mono φ (show a + 1 ≤ c by omega)
  rw [fp_y h] at this
  omega
theorem gd_l {φ : Nat → Bool} {n c : Nat} (h : c < fp φ n) : gd φ (n + 1) c = gd φ n c := by
  rcases bcs φ n with e | e
  · unfold gd
    rw [fl_y e, List.getD_eq_getElem?_getD, List.getD_eq_getElem?_getD, List.getElem?_append_left h]
  · unfold gd
    rw [fl_n e]
theorem gd_y {φ : Nat → Bool} {n : Nat} (h : φ n = true) : gd φ (n + 1) (fp φ n) = n := by
  unfold gd fp
  rw [fl_y h]
  simp
theorem gd_at {φ : Nat → Bool} {r : Nat} (h : φ r = true) : ∀ {n : Nat}, r < n → gd φ n (fp φ r) = r
  | 0, hr => by omega
  | n + 1, hr => by
    by_cases e : r = n
    · subst e; exact gd_y h
    · rw [gd_l (fp_lt h (by omega))]
      exact gd_at h (by omega)
theorem gd_in {φ : Nat → Bool} {c : Nat} : ∀ {n : Nat}, c < fp φ n → gd φ n c < n ∧ φ (gd φ n c) = true ∧ fp φ (gd φ n c) = c
  | 0, h => by rw [fp_0] at h; omega
  | n + 1, h => by
    by_cases e : c < fp φ n
    · rw [gd_l e]
      have := gd_in e
      exact ⟨by omega, this.2⟩
    · rcases bcs φ n with h1 | h1
      · rw [fp_y h1] at h
        rw [show c = fp φ n by omega, gd_y h1]
        exact ⟨by omega, h1, rfl⟩
      · rw [fp_n h1] at h
        exact absurd h e
theorem fp_congr {φ ψ : Nat → Bool} : ∀ {n : Nat}, (∀ k, k < n → φ k = ψ k) → fp φ n = fp ψ n
  | 0, _ => rfl
  | n + 1, h => by
    have ih := fp_congr (φ := φ) (ψ := ψ) (n := n) (fun k hk => h k (by omega))
    have e := h n (by omega)
    rcases bcs φ n with h1 | h1
    · rw [fp_y h1, fp_y (e.symm.trans h1), ih]
    · rw [fp_n h1, fp_n (e.symm.trans h1), ih]
theorem gd_congr {φ ψ : Nat → Bool} {n c : Nat} (h : ∀ k, k < n → φ k = ψ k) (hc : c < fp φ n) : gd φ n c = gd ψ n c := by
  obtain ⟨h1, h2, h3⟩ := gd_in hc
  have e : fp ψ (gd φ n c) = c := by
    rw [← fp_congr (φ := φ) (fun k hk => h k (by omega))]; exact h3
  have := gd_at (φ := ψ) (r := gd φ n c) (by rw [← h _ h1]; exact h2) h1
  rw [e] at this
  exact this.symm
theorem sf_snoc (f : Nat → Int) : ∀ (n k : Nat), sf f k (n + 1) = sf f k n + f (k + n)
  | 0, k => by
    show f k + 0 = 0 + f (k + 0)
    rw [Nat.add_zero]; omega
  | n + 1, k => by
    show f k + sf f (k + 1) (n + 1) = (f k + sf f (k + 1) n) + f (k + (n + 1))
    rw [sf_snoc f n (k + 1), show k + 1 + n = k + (n + 1) by omega]; omega
theorem sf_one (f : Nat → Int) (n : Nat) : sf f 0 (n + 1) = sf f 0 n + f n := by
  rw [sf_snoc, Nat.zero_add]
/-- a sum over those of a kind -/
theorem sf_fl {φ : Nat → Bool} (h : Nat → Nat → Int) : ∀ (n : Nat), sf (fun c => h c (gd φ n c)) 0 (fp φ n) = sf (fun r => if φ r = true then h (fp φ r) r else 0) 0 n
  | 0 => rfl
  | n + 1 => by
    rw [sf_one, ← sf_fl h n]
    rcases bcs φ n with e | e
    · rw [fp_y e, sf_one, if_pos e, gd_y e]
      congr 1
      exact sf_congr _ _ (fun i _ hi => by rw [gd_l (by omega)])
    · rw [fp_n e, if_neg (by rw [e]; exact Bool.false_ne_true), Int.add_zero]
      exact sf_congr _ _ (fun i _ hi => by rw [gd_l (by omega)])
theorem sf_mul (c : Int) (f : Nat → Int) : ∀ (n k : Nat), sf (fun i => c * f i) k n = c * sf f k n
  | 0, k => (Int.mul_zero c).symm
  | n + 1, k => by
    show c * f k + sf (fun i => c * f i) (k + 1) n = c * (f k + sf f (k + 1) n)
    rw [sf_mul c f n (k + 1), Int.mul_add]
theorem sf_add (f g : Nat → Int) : ∀ (n k : Nat), sf (fun i => f i + g i) k n = sf f k n + sf g k n
  | 0, k => rfl
  | n + 1, k => by
    show f k + g k + sf (fun i => f i + g i) (k + 1) n = f k + sf f (k + 1) n + (g k + sf g (k + 1) n)
    rw [sf_add f g n (k + 1)]; omega
theorem sf_le {f g : Nat → Int} : ∀ (n k : Nat), (∀ i, k ≤ i → i < k + n → f i ≤ g i) → sf f k n ≤ sf g k n
  | 0, k, _ => Int.le_refl _
  | n + 1, k, h => by
    show f k + sf f (k + 1) n ≤ g k + sf g (k + 1) n
    have a := h k (by omega) (by omega)
    have b := sf_le n (k + 1) (fun i h1 h2 => h i (by omega) (by omega))
    omega
theorem sf_comm (f : Nat → Nat → Int) (m : Nat) : ∀ (n k : Nat), sf (fun i => sf (fun j => f i j) 0 m) k n = sf (fun j => sf (fun i => f i j) k n) 0 m
  | 0, k => by
    show (0 : Int) = sf (fun _ => 0) 0 m
    rw [sf_zero]
  | n + 1, k => by
    show sf (fun j => f k j) 0 m + sf (fun i => sf (fun j => f i j) 0 m) (k + 1) n = sf (fun j => f k j + sf (fun i => f i j) (k + 1) n) 0 m
    rw [sf_comm f m n (k + 1), sf_add]
/-- whether a bit is set -/
def bt (m k : Nat) : Bool := decide (m / 2 ^ k % 2 = 1)
theorem bt_hi {n : Nat} {m : Nat} (hm : m < 2 ^ n) (b : Nat) (hb : b ≤ 1) : bt (m + b * 2 ^ n) n = decide (b = 1) := by
  unfold bt
  rw [Nat.add_mul_div_right _ _ (Nat.two_pow_pos n), Nat.div_eq_of_lt hm, Nat.zero_add]
  congr 1
  have : b % 2 = b := Nat.mod_eq_of_lt (by omega)
  rw [this]
theorem bt_lo {n k : Nat} (m : Nat) (hk : k < n) (b : Nat) : bt (m + b * 2 ^ n) k = bt m k := by
  unfold bt
  have e : b * 2 ^ n = (b * 2 ^ (n - k - 1) * 2) * 2 ^ k := by
    rw [Nat.mul_assoc, Nat.mul_assoc, ← Nat.pow_succ', ← Nat.pow_add]
    congr 2
    omega
  rw [e, Nat.add_mul_div_right _ _ (Nat.two_pow_pos k), Nat.add_mul_mod_self_right]
theorem mask_ex (φ : Nat → Bool) : ∀ n, ∃ m, m < 2 ^ n ∧ ∀ k, k < n → bt m k = φ k
  | 0 => ⟨0, by decide, fun k hk => by omega⟩
  | n + 1 => by
    obtain ⟨m, h1, h2⟩ := mask_ex φ n
    rcases bcs φ n with e | e
    · refine ⟨m + 1 * 2 ^ n, by rw [Nat.pow_succ]; omega, fun k hk => ?_⟩
      by_cases ek : k = n
      · subst ek; rw [bt_hi h1 1 (by omega), e]; rfl
      · rw [bt_lo m (by omega) 1]; exact h2 k (by omega)
    · refine ⟨m + 0 * 2 ^ n, by rw [Nat.pow_succ]; omega, fun k hk => ?_⟩
      by_cases ek : k = n
      · subst ek; rw [bt_hi h1 0 (by omega), e]; rfl
      · rw [bt_lo m (by omega) 0]; exact h2 k (by omega)
theorem bt_1 {m k : Nat} : bt m k = true ↔ m / 2 ^ k % 2 = 1 := by unfold bt; exact decide_eq_true_iff
theorem bt_0 {m k : Nat} : bt m k = false ↔ m / 2 ^ k % 2 = 0 := by
  unfold bt
  rw [decide_eq_false_iff_not]
  have := Nat.mod_two_eq_zero_or_one (m / 2 ^ k)
  omega
/-- without one of them -/
theorem fp_wo {φ : Nat → Bool} {u : Nat} (h : φ u = true) : ∀ n, fp (fun t => φ t && decide (¬ t = u)) n = if u < n then fp φ n - 1 else fp φ n
  | 0 => by rw [if_neg (by omega)]; rfl
  | n + 1 => by
    have ih := fp_wo h n
    by_cases e : n = u
    · subst e
      rw [if_pos (by omega), fp_y h, fp_n (by simp), ih, if_neg (by omega)]
      omega
    · rcases bcs φ n with h1 | h1
      · rw [fp_y h1, fp_y (by simp [h1, e]), ih]
        by_cases lt : u < n
        · have := fp_lt h lt
          rw [if_pos lt, if_pos (by omega)]; omega
        · rw [if_neg lt, if_neg (by omega)]
      · rw [fp_n h1, fp_n (by simp [h1]), ih]
        by_cases lt : u < n
        · rw [if_pos lt, if_pos (by omega)]
        · rw [if_neg lt, if_neg (by omega)]
theorem gd_wo {φ : Nat → Bool} {u n i : Nat} (h : φ u = true) (hu : u < n) (hi : i + 1 < fp φ n) : gd (fun t => φ t && decide (¬ t = u)) n i = gd φ n (if i < fp φ u then i else i + 1) := by
  obtain ⟨h1, h2, h3⟩ := gd_in (φ := φ) (n := n) (c := if i < fp φ u then i else i + 1) (by split <;> omega)
  generalize hr : gd φ n (if i < fp φ u then i else i + 1) = r at *
  have hne : ¬ r = u := by
    rintro rfl
    split at h3 <;> omega
  have e : fp (fun t => φ t && decide (¬ t = u)) r = i := by
    rw [fp_wo h]
    by_cases lt : u < r
    · have := fp_lt h lt
      rw [if_pos lt]
      split at h3 <;> omega
    · have := fp_lt (φ := φ) h2 (show r < u by omega)
      rw [if_neg lt]
      split at h3 <;> omega
  have := gd_at (φ := fun t => φ t && decide (¬ t = u)) (r := r) (by simp [h2, hne]) h1
  rw [e] at this
  exact this

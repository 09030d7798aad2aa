/-! all plans of a box, one after the other -/
def od2 (lo hi : Nat → Int) : Nat → (Nat → Int) → (Nat → Int)
  | 0, p => p
  | k + 1, p => if hi k ≤ p k then od2 lo hi k (pu p k (lo k)) else pu p k (p k + 1)
def bx (lo hi : Nat → Int) (n : Nat) (p : Nat → Int) : Prop := ∀ t, t < n → lo t ≤ p t ∧ p t ≤ hi t
def rk (lo hi : Nat → Int) : Nat → (Nat → Int) → Int
  | 0, _ => 0
  | k + 1, p => rk lo hi k p * (hi k - lo k + 1) + (p k - lo k)
def sz (lo hi : Nat → Int) : Nat → Int
  | 0 => 1
  | k + 1 => sz lo hi k * (hi k - lo k + 1)
section EN
variable {lo hi : Nat → Int}
theorem od_od2 (ms : Nat → Int) : ∀ (k : Nat) (p : Nat → Int), od ms k p = od2 (fun _ => 0) ms k p
  | 0, p => rfl
  | k + 1, p => by
    unfold od od2
    rw [od_od2 ms k]
theorem pr_sz (ms : Nat → Int) : ∀ (k t : Nat), pr ms t k (sz (fun _ => 0) ms t) = sz (fun _ => 0) ms (t + k)
  | 0, t => rfl
  | k + 1, t => by
    show pr ms (t + 1) k (sz (fun _ => 0) ms t * (ms t + 1)) = _
    have h := pr_sz ms k (t + 1)
    rw [show t + (k + 1) = t + 1 + k by omega, ← h]
    show _ = pr ms (t + 1) k (sz (fun _ => 0) ms t * (ms t - 0 + 1))
    rw [Int.sub_zero]
theorem od2_ge : ∀ (k : Nat) (p : Nat → Int) (t : Nat), k ≤ t → od2 lo hi k p t = p t
  | 0, p, t, _ => rfl
  | k + 1, p, t, h => by
    unfold od2
    split
    · rw [od2_ge k _ t (by omega), pu_ne p _ (by omega)]
    · rw [pu_ne p _ (by omega)]
theorem rk_congr {p q : Nat → Int} : ∀ (k : Nat), (∀ t, t < k → p t = q t) → rk lo hi k p = rk lo hi k q
  | 0, _ => rfl
  | k + 1, h => by
    unfold rk
    rw [rk_congr k (fun t ht => h t (by omega)), h k (by omega)]
theorem rk_lt {p : Nat → Int} : ∀ (k : Nat), bx lo hi k p → 0 ≤ rk lo hi k p ∧ rk lo hi k p < sz lo hi k
  | 0, _ => by show (0 : Int) ≤ 0 ∧ (0 : Int) < 1; omega
  | k + 1, h => by
    have h1 := rk_lt k (fun t ht => h t (by omega))
    have h2 := h k (by omega)
    have h3 : (rk lo hi k p + 1) * (hi k - lo k + 1) ≤ sz lo hi k * (hi k - lo k + 1) := Int.mul_le_mul_of_nonneg_right (by omega) (by omega)
    have h4 : 0 ≤ rk lo hi k p * (hi k - lo k + 1) := Int.mul_nonneg h1.1 (by omega)
    rw [Int.add_mul, Int.one_mul] at h3
    unfold rk sz
    omega
theorem sz_pos : ∀ (k : Nat), (∀ t, t < k → lo t ≤ hi t) → 0 < sz lo hi k
  | 0, _ => by show (0 : Int) < 1; omega
  | k + 1, h => by
    have h1 := sz_pos k (fun t ht => h t (by omega))
    have h2 := h k (by omega)
    exact Int.mul_pos h1 (by omega)
theorem rk_top {p : Nat → Int} : ∀ (k : Nat), bx lo hi k p → (∀ t, t < k → hi t ≤ p t) → rk lo hi k p = sz lo hi k - 1
  | 0, _, _ => rfl
  | k + 1, h, ht => by
    have h1 := rk_top k (fun t ht => h t (by omega)) (fun t h3 => ht t (by omega))
    have h2 := h k (by omega)
    have h3 := ht k (by omega)
    unfold rk sz
    rw [h1, Int.sub_mul, Int.one_mul]
    omega
theorem rk_next : ∀ (k : Nat) {p : Nat → Int}, bx lo hi k p → ¬ (∀ t, t < k → hi t ≤ p t) → bx lo hi k (od2 lo hi k p) ∧ rk lo hi k (od2 lo hi k p) = rk lo hi k p + 1
  | 0, p, _, h => absurd (fun t ht => by omega) h
  | k + 1, p, hb, hn => by
    have h2 := hb k (by omega)
    by_cases e : hi k ≤ p k
    · have hb' : bx lo hi k (pu p k (lo k)) := fun t ht => by rw [pu_ne p _ (by omega)]; exact hb t (by omega)
      have hn' : ¬ (∀ t, t < k → hi t ≤ pu p k (lo k) t) := fun h => hn (fun t ht => by
        by_cases et : t = k
        · subst et; exact e
        · have := h t (by omega)
          rw [pu_ne p _ et] at this; exact this)
      have ih := rk_next k hb' hn'
      have e1 : rk lo hi k (pu p k (lo k)) = rk lo hi k p := rk_congr k (fun t ht => pu_ne p _ (by omega))
      have e2 : od2 lo hi k (pu p k (lo k)) k = lo k := by rw [od2_ge k _ k (by omega), pu_at]
      have e3 : od2 lo hi (k + 1) p = od2 lo hi k (pu p k (lo k)) := if_pos e
      rw [e3]
      refine ⟨fun t ht => ?_, ?_⟩
      · by_cases et : t = k
        · subst et; rw [e2]; omega
        · exact ih.1 t (by omega)
      · show rk lo hi k _ * (hi k - lo k + 1) + (od2 lo hi k (pu p k (lo k)) k - lo k) = rk lo hi k p * (hi k - lo k + 1) + (p k - lo k) + 1
        rw [ih.2, e1, e2, Int.add_mul, Int.one_mul]
        omega
    · have e3 : od2 lo hi (k + 1) p = pu p k (p k + 1) := if_neg e
      rw [e3]
      refine ⟨fun t ht => ?_, ?_⟩
      · by_cases et : t = k
        · subst et; rw [pu_at]; omega
        · rw [pu_ne p _ et]; exact hb t ht
      · show rk lo hi k _ * (hi k - lo k + 1) + (pu p k (p k + 1) k - lo k) = rk lo hi k p * (hi k - lo k + 1) + (p k - lo k) + 1
        rw [rk_congr (q := p) k (fun t ht => pu_ne p _ (by omega)), pu_at]
        omega
theorem dm_inj {a a' x x' m : Int} (hx : 0 ≤ x ∧ x < m) (hx' : 0 ≤ x' ∧ x' < m) (h : a * m + x = a' * m + x') : a = a' := by
  rcases Int.lt_trichotomy a a' with h1 | h1 | h1
  · have : (a + 1) * m ≤ a' * m := Int.mul_le_mul_of_nonneg_right (by omega) (by omega)
    rw [Int.add_mul, Int.one_mul] at this
    omega
  · exact h1
  · have : (a' + 1) * m ≤ a * m := Int.mul_le_mul_of_nonneg_right (by omega) (by omega)
    rw [Int.add_mul, Int.one_mul] at this
    omega
theorem rk_inj {p q : Nat → Int} : ∀ (k : Nat), bx lo hi k p → bx lo hi k q → rk lo hi k p = rk lo hi k q → ∀ t, t < k → p t = q t
  | 0, _, _, _, t, ht => by omega
  | k + 1, hp, hq, h, t, ht => by
    have h1 := hp k (by omega)
    have h2 := hq k (by omega)
    unfold rk at h
    have h3 := dm_inj (by omega) (by omega) h
    rw [h3] at h
    by_cases e : t = k
    · subst e; omega
    · exact rk_inj k (fun t ht => hp t (by omega)) (fun t ht => hq t (by omega)) h3 t (by omega)
theorem rk_lo : ∀ (k : Nat), rk lo hi k lo = 0
  | 0 => rfl
  | k + 1 => by
    unfold rk
    rw [rk_lo k, Int.zero_mul]; omega
def fdl {α : Type} (lo hi : Nat → Int) (n : Nat) (f : (Nat → Int) → α → α) : Nat → (Nat → Int) → α → α
  | 0, _, s => s
  | k + 1, p, s => fdl lo hi n f k (od2 lo hi n p) (f p s)
theorem fdl_ind {α : Type} {n : Nat} {f : (Nat → Int) → α → α} {P : Int → α → Prop} (hs : ∀ i p s, bx lo hi n p → rk lo hi n p = i → P i s → P (i + 1) (f p s)) : ∀ (k : Nat) (p : Nat → Int) (s : α), bx lo hi n p → rk lo hi n p + (k : Int) = sz lo hi n → P (rk lo hi n p) s → P (sz lo hi n) (fdl lo hi n f k p s)
  | 0, p, s, hb, hk, h => by
    have := rk_lt n hb
    omega
  | k + 1, p, s, hb, hk, h => by
    have h1 := hs _ p s hb rfl h
    show P (sz lo hi n) (fdl lo hi n f k (od2 lo hi n p) (f p s))
    by_cases e : k = 0
    · subst e
      rw [show sz lo hi n = rk lo hi n p + 1 by omega]; exact h1
    · have hn : ¬ (∀ t, t < n → hi t ≤ p t) := fun h => by
        have := rk_top n hb h
        omega
      have h2 := rk_next n hb hn
      refine fdl_ind hs k _ _ h2.1 (by omega) ?_
      rw [h2.2]; exact h1
theorem fdl_all {α : Type} {n : Nat} {f : (Nat → Int) → α → α} {P : Int → α → Prop} (hlh : ∀ t, t < n → lo t ≤ hi t) (hs : ∀ i p s, bx lo hi n p → rk lo hi n p = i → P i s → P (i + 1) (f p s)) {s : α} (h0 : P 0 s) : P (sz lo hi n) (fdl lo hi n f (sz lo hi n).toNat lo s) := by
  have h1 := sz_pos n hlh
  refine fdl_ind hs _ lo s (fun t ht => ⟨Int.le_refl _, hlh t ht⟩) ?_ ?_
  · rw [rk_lo]; omega
  · rw [rk_lo]; exact h0
end EN
/-- M is the greatest of V over A, or NONE where there is none -/
def mxq (A : (Nat → Int) → Prop) (V : (Nat → Int) → Int) (M : Int) : Prop := (M = -1000000 ∧ ∀ q, ¬ A q) ∨ ((∃ q, A q ∧ V q = M) ∧ ∀ q, A q → V q ≤ M)
theorem mxq.unique {A : (Nat → Int) → Prop} {V : (Nat → Int) → Int} {M M' : Int} (h : mxq A V M) (h' : mxq A V M') : M = M' := by
  rcases h with ⟨h1, h2⟩ | ⟨⟨q, h1, h2⟩, h3⟩
  · rcases h' with ⟨g1, g2⟩ | ⟨⟨q', g1, g2⟩, g3⟩
    · omega
    · exact absurd g1 (h2 _)
  · rcases h' with ⟨g1, g2⟩ | ⟨⟨q', g1, g2⟩, g3⟩
    · exact absurd h1 (g2 _)
    · have := h3 q' g1
      have := g3 q h1
      omega
theorem mxq.congr {A A' : (Nat → Int) → Prop} {V : (Nat → Int) → Int} {M : Int} (h : mxq A V M) (e : ∀ q, A' q ↔ A q) : mxq A' V M := by
  rcases h with ⟨h1, h2⟩ | ⟨⟨q, h1, h2⟩, h3⟩
  · exact Or.inl ⟨h1, fun q hq => h2 q ((e q).1 hq)⟩
  · exact Or.inr ⟨⟨q, (e q).2 h1, h2⟩, fun q hq => h3 q ((e q).1 hq)⟩
theorem mxq.add {A A' : (Nat → Int) → Prop} {V : (Nat → Int) → Int} {M v : Int} (h : mxq A V M) (hv : -1000000 < v) (h1 : ∀ q, A' q → A q ∨ V q = v) (h2 : ∀ q, A q → A' q) (h3 : ∃ q, A' q ∧ V q = v) : mxq A' V (max M v) := by
  obtain ⟨q0, a0, v0⟩ := h3
  rcases h with ⟨g1, g2⟩ | ⟨⟨q, g1, g2⟩, g3⟩
  · refine Or.inr ⟨⟨q0, a0, by omega⟩, fun q hq => ?_⟩
    rcases h1 q hq with h | h
    · exact absurd h (g2 q)
    · omega
  · refine Or.inr ⟨?_, fun q hq => ?_⟩
    · by_cases e : M ≤ v
      · exact ⟨q0, a0, by omega⟩
      · exact ⟨q, h2 q g1, by omega⟩
    · rcases h1 q hq with h | h
      · have := g3 q h
        omega
      · omega
theorem mxq.emp {A : (Nat → Int) → Prop} {V : (Nat → Int) → Int} (h : ∀ q, ¬ A q) : mxq A V (-1000000) := Or.inl ⟨rfl, h⟩
/-! what a plan is worth, and whether it fits -/
def fit (b : Bk) (lim p : Nat → Int) : Prop := ∀ r, r < bM b → ldp b p r ≤ lim r
theorem fo_none (b : Bk) (lim p : Nat → Int) : ∀ (k r : Nat), fo b lim p r k = -1000000 ↔ ∀ q, r ≤ q → q < r + k → ldp b p q ≤ lim q
  | 0, r => by
    constructor
    · intro _ q h1 h2; omega
    · intro _; rfl
  | k + 1, r => by
    have ih := fo_none b lim p k (r + 1)
    unfold fo
    by_cases e : lim r < ldp b p r
    · rw [if_pos e]
      constructor
      · intro h; omega
      · intro h
        have := h r (by omega) (by omega)
        omega
    · rw [if_neg e, ih]
      constructor
      · intro h q h1 h2
        by_cases eq : q = r
        · subst eq; omega
        · exact h q (by omega) (by omega)
      · intro h q h1 h2
        exact h q (by omega) (by omega)
theorem fo_fit (b : Bk) (lim p : Nat → Int) : fo b lim p 0 (bM b) = -1000000 ↔ fit b lim p := by
  rw [fo_none]
  unfold fit
  constructor
  · intro h r hr; exact h r (by omega) (by omega)
  · intro h q _ hq; exact h q (by omega)
/-- the first rule that is over -/
theorem fo_some (b : Bk) (lim p : Nat → Int) : ∀ (k r : Nat), ¬ fo b lim p r k = -1000000 → ∃ q : Nat, fo b lim p r k = (q : Int) ∧ r ≤ q ∧ q < r + k ∧ lim q < ldp b p q ∧ ∀ i, r ≤ i → i < q → ldp b p i ≤ lim i
  | 0, r, h => absurd rfl h
  | k + 1, r, h => by
    unfold fo at h ⊢
    by_cases e : lim r < ldp b p r
    · rw [if_pos e]
      exact ⟨r, rfl, Nat.le_refl _, by omega, e, fun i h1 h2 => by omega⟩
    · rw [if_neg e] at h ⊢
      obtain ⟨q, h1, h2, h3, h4, h5⟩ := fo_some b lim p k (r + 1) h
      refine ⟨q, h1, by omega, by omega, h4, fun i h6 h7 => ?_⟩
      by_cases ei : i = r
      · subst ei; omega
      · exact h5 i (by omega) h7
section CG
variable {b : Bk} {p q : Nat → Int}
theorem ldp_congr (hB : BR b) (h : ∀ t, t < bN b → p t = q t) {r : Nat} (hr : r < bM b) : ldp b p r = ldp b q r := by
  unfold ldp
  by_cases e : bK b r = 2
  · rw [if_pos e, if_pos e]
    have h1 := (hB.2.2.2.1 r hr).2.2.2.2.2 (by omega)
    rw [h (bL b r).toNat (by omega), h (bR b r).toNat (by omega)]
  · rw [if_neg e, if_neg e]
    exact sf_congr _ _ (fun i _ hi => by rw [h i (by omega)])
theorem vlp_congr (h : ∀ t, t < bN b → p t = q t) : vlp b p = vlp b q := sf_congr _ _ (fun i _ hi => by rw [h i (by omega)])
theorem fit_congr {lim : Nat → Int} (hB : BR b) (h : ∀ t, t < bN b → p t = q t) : fit b lim p ↔ fit b lim q := by
  unfold fit
  constructor
  · intro g r hr; rw [← ldp_congr hB h hr]; exact g r hr
  · intro g r hr; rw [ldp_congr hB h hr]; exact g r hr
theorem bx_bd {lo hi : Nat → Int} {n : Nat} (h0 : ∀ t, t < n → 0 ≤ lo t) (h9 : ∀ t, t < n → hi t ≤ 9) (h : bx lo hi n p) : bd n p := fun t ht => by
  have := h t ht
  have := h0 t ht
  have := h9 t ht
  omega
end CG

/-! calls of both that change the book: amount, rule -/
section OP3
variable {SV : Bk → (Nat → Nat → Int) → Prop} {CN : Bk → (Nat → Nat → Int) → (Nat → Nat → Int) → Prop} {b : Bk} {Z Y : Nat → Nat → Int} {S : Nat × (Nat → Int32)} {d : Nat}
theorem op_amount (h : Inv SV CN b Z Y) {r t v : Int} (hr : i32 r) (ht : i32 t) (hv : i32 v) : PairI SV CN (d + 3) mX4_amount mX5_amount [.ref 0, iv r, iv t, iv v] [.ref 27, iv r, iv t, iv v] Z Y S := by
  obtain ⟨e1, e2, e3, e4, e5, e6⟩ := h.nx
  obtain ⟨hB, hX, hM, hP, hs, hc⟩ := id h
  have keyR : 0 ≤ r ∧ r < Z 1 1 → Z 4 r.toNat = bK b r.toNat ∧ Z 30 r.toNat = bK b r.toNat ∧ 0 ≤ bK b r.toNat ∧ bK b r.toNat ≤ 2 := fun hr => by
    have h1 : r.toNat < bM b := by omega
    exact ⟨(hX.2.2.2.1 _ h1).1, (hM.2.2.2.1 _ h1).1, (hB.2.2.2.1 _ h1).1, (hB.2.2.2.1 _ h1).2.1⟩
  have keyF : (0 ≤ r ∧ r < Z 1 1) → (0 ≤ t ∧ t < Z 1 0) → bK b r.toNat = 0 → Z 9 ((r * 4 + t).toNat) = bF b r.toNat t.toNat ∧ Z 35 ((4 * r + t).toNat) = bF b r.toNat t.toNat ∧ -9 ≤ bF b r.toNat t.toNat ∧ bF b r.toNat t.toNat ≤ 9 := fun hr ht hk => by
    have h1 : r.toNat < bM b := by omega
    have h2 : t.toNat < bN b := by omega
    have i1 : (r * 4 + t).toNat = r.toNat * 4 + t.toNat := by omega
    have i2 : (4 * r + t).toNat = 4 * r.toNat + t.toNat := by omega
    rw [i1, i2]
    have a1 := hX.2.2.2.2 r.toNat t.toNat (by omega) (by omega)
    have a2 := hM.2.2.2.2 r.toNat t.toNat (by omega) (by omega)
    rw [if_pos ⟨h1, hk⟩] at a2
    exact ⟨a1, a2, hB.2.2.2.2.1 _ _ h1 h2⟩
  have fin : (0 ≤ r ∧ r < Z 1 1) → (0 ≤ t ∧ t < Z 1 0) → bK b r.toNat = 0 → (-9 ≤ v ∧ v ≤ 9) → Inv SV CN (bkAmount b r.toNat t.toNat v) (zu (zu (zu (zu Z 9 (((r * 4) + t).toNat) v) 0 5 0) 0 6 0) 35 (((4 * r) + t).toNat) v) Y := fun hr ht hk hv => by
    obtain ⟨x1, x2, x3, x4, x5⟩ := hX
    obtain ⟨m1, m2, m3, m4, m5⟩ := hM
    have i1 : (r * 4 + t).toNat = r.toNat * 4 + t.toNat := by omega
    have i2 : (4 * r + t).toNat = 4 * r.toNat + t.toNat := by omega
    rw [i1, i2]
    refine ⟨hB.amount (by omega) (by omega) hk hv, ⟨by simp [zu]; exact x1, by simp [zu]; exact x2, fun t ht => by have := x3 t ht; simp [zu]; exact this, fun r' hr' => by have := x4 r' hr'; simp [zu]; exact this, fun r' t' hr' ht' => ?_⟩, ⟨by simp [zu]; exact m1, by simp [zu]; exact m2, fun t ht => by have := m3 t ht; simp [zu]; exact this, fun r' hr' => by have := m4 r' hr'; simp [zu]; exact this, fun r' t' hr' ht' => ?_⟩, fun t ht => by have := hP t ht; simp [zu]; exact this, Or.inl (by simp [zu]), Or.inl (by simp [zu])⟩
    · have := x5 r' t' hr' ht'
      rw [am_F]
      by_cases e : r' = r.toNat ∧ t' = t.toNat
      · rw [if_pos e]
        have e' : r' * 4 + t' = r.toNat * 4 + t.toNat := by omega
        simp [zu, e']
      · rw [if_neg e]
        have e' : ¬ r' * 4 + t' = r.toNat * 4 + t.toNat := by omega
        simp [zu, e']; exact this
    · have := m5 r' t' hr' ht'
      have ek : bK (bkAmount b r.toNat t.toNat v) r' = bK b r' := rfl
      have em : bM (bkAmount b r.toNat t.toNat v) = bM b := rfl
      rw [am_F, ek, em]
      by_cases e : r' = r.toNat ∧ t' = t.toNat
      · have e' : 4 * r' + t' = 4 * r.toNat + t.toNat := by omega
        rw [if_pos e, if_pos ⟨by omega, by rw [e.1]; exact hk⟩]
        simp [zu, e']
      · rw [if_neg e]
        have e' : ¬ 4 * r' + t' = 4 * r.toNat + t.toNat := by omega
        simp [zu, e']; exact this
  refine jj_Ci.deep (d := d + 2) (by omega) (kX4_amount hr ht hv (by omega) (by omega) (fun c => by have := keyR c; omega) (fun c => ⟨_, _, rfl, by omega, ?_⟩) (fun c => ⟨_, _, rfl, ?_, ?_⟩))
  · refine jj_Ci.deep (d := d + 2) (by omega) (kX5_amount hr ht hv (by omega) (by omega) (fun c => by have := keyR (by omega); omega) (fun c' => ⟨rfl, b, _, _, rfl, h⟩) (fun c' => ?_))
    have := keyR (by omega)
    omega
  · have k1 := keyR c.1
    have k2 := keyF c.1 c.2.2.1 (by omega)
    omega
  · have k1 := keyR c.1
    have k2 := keyF c.1 c.2.2.1 (by omega)
    refine jj_Ci.deep (d := d + 2) (by omega) (kX5_amount hr ht hv (by simp [zu]; omega) (by simp [zu]; omega) (fun c => by simp [zu]; omega) (fun c' => by simp [zu] at c'; omega) (fun c' => ⟨by simp [zu]; omega, _, _, _, rfl, fin c.1 c.2.2.1 (by omega) (by omega)⟩))
theorem op_rule (h : Inv SV CN b Z Y) {q x y l : Int} (hq : i32 q) (hx : i32 x) (hy : i32 y) (hl : i32 l) : PairI SV CN (d + 3) mX4_rule mX5_rule [.ref 0, iv q, iv x, iv y, iv l] [.ref 27, iv q, iv x, iv y, iv l] Z Y S := by
  obtain ⟨e1, e2, e3, e4, e5, e6⟩ := h.nx
  obtain ⟨hB, hX, hM, hP, hs, hc⟩ := id h
  have t1 : (Z 1 1).toNat = bM b := by omega
  have t2 : (Z 27 3).toNat = bM b := by omega
  have hM9 := hM
  obtain ⟨x1, x2, x3, x4, x5⟩ := hX
  obtain ⟨m1, m2, m3, m4, m5⟩ := hM
  have hMm : bM (bkRule b q x y l) = bM b + 1 := rfl
  have hN : bN (bkRule b q x y l) = bN b := rfl
  -- what both heaps come to
  have fin : ∀ Z' : Nat → Nat → Int, bM b < 6 → (0 ≤ q ∧ q ≤ 2) → (0 ≤ l ∧ ((q = 0 ∧ l ≤ 999) ∨ (¬ q = 0 ∧ l ≤ 9))) → (q = 0 ∨ ((0 ≤ x ∧ x < bN b) ∧ (0 ≤ y ∧ y < bN b))) → Z' 0 5 = 0 → Z' 0 6 = 0 → Z' 1 0 = Z 1 0 → Z' 1 1 = Z 1 1 + 1 → (∀ k, Z' 2 k = Z 2 k ∧ Z' 3 k = Z 3 k) → (∀ k, Z' 4 k = (if k = bM b then q else Z 4 k) ∧ Z' 7 k = (if k = bM b then l else Z 7 k) ∧ Z' 8 k = (if k = bM b then 1 else Z 8 k)) → (¬ q = 0 → Z' 5 (bM b) = x ∧ Z' 6 (bM b) = y) → (∀ k, ¬ k = bM b → Z' 5 k = Z 5 k ∧ Z' 6 k = Z 6 k) → (∀ r t, r < 6 → t < 4 → Z' 9 (r * 4 + t) = bF (bkRule b q x y l) r t) → (∀ t, Z' 26 t = Z 26 t) → (∀ a k, 27 ≤ a → Z' a k = Z a k) →
      Inv SV CN (bkRule b q x y l) (zu (zu (zu (zu (zu (zu Z' 30 (bM b) q) 31 (bM b) x) 32 (bM b) y) 33 (bM b) l) 34 (bM b) 1) 27 3 (Z 27 3 + 1)) Y := by
    intro Z' hm hq hl hxy z05 z06 z10 z11 z23 z478 z56 z56' z9 z26 z27
    refine ⟨hB.rule hm hq hl hxy, ⟨by simp [zu]; rw [z10, hN]; exact x1, by simp [zu]; rw [z11, hMm]; omega, fun t ht => by have := x3 t ht; simp [zu]; rw [(z23 t).1, (z23 t).2]; exact this, fun r hr => ?_, fun r t hr ht => by simp [zu]; exact z9 r t hr ht⟩, ⟨by simp [zu]; rw [z27 27 0 (by omega), hN]; exact m1, by simp [zu]; rw [hMm]; omega, fun t ht => by have := m3 t ht; simp [zu]; rw [z27 28 t (by omega), z27 29 t (by omega)]; exact this, fun r hr => ?_, fun r t hr ht => ?_⟩, fun t ht => by have := hP t ht; simp [zu]; rw [z26, z27 36 t (by omega)]; exact this, Or.inl (by simp [zu]; exact z05), Or.inl (by simp [zu]; exact z06)⟩
    · rw [hMm] at hr
      simp [zu]
      by_cases e : r = bM b
      · have a1 := z478 r
        rw [if_pos e, if_pos e, if_pos e] at a1
        rw [rk_K e, rk_I e, rk_O e, rk_L e, rk_R e]
        refine ⟨a1.1, a1.2.1, a1.2.2, fun hk => ?_⟩
        rw [e]; exact z56 hk
      · have a1 := z478 r
        rw [if_neg e, if_neg e, if_neg e] at a1
        rw [rn_K e, rn_I e, rn_O e, rn_L e, rn_R e, a1.1, a1.2.1, a1.2.2, (z56' r e).1, (z56' r e).2]
        exact x4 r (by omega)
    · rw [hMm] at hr
      by_cases e : r = bM b
      · rw [rk_K e, rk_I e, rk_O e, rk_L e, rk_R e]
        simp [zu, e]
      · rw [rn_K e, rn_I e, rn_O e, rn_L e, rn_R e]
        have := m4 r (by omega)
        simp [zu, e]
        rw [z27 30 r (by omega), z27 31 r (by omega), z27 32 r (by omega), z27 33 r (by omega), z27 34 r (by omega)]
        exact this
    · have := m5 r t hr ht
      simp only [zu]
      simp
      rw [z27 35 _ (by omega), this, hMm]
      by_cases e : r = bM b
      · rw [rk_K e, rk_F e, if_neg (by omega)]
        by_cases e0 : q = 0
        · rw [if_pos ⟨by omega, e0⟩, if_neg (by omega)]
        · rw [if_neg (by rintro ⟨-, z⟩; exact e0 z)]
      · rw [rn_K e, rn_F e]
        by_cases e2 : r < bM b
        · by_cases e3 : bK b r = 0
          · rw [if_pos ⟨e2, e3⟩, if_pos ⟨by omega, e3⟩]
          · rw [if_neg (by rintro ⟨-, z⟩; exact e3 z), if_neg (by rintro ⟨-, z⟩; exact e3 z)]
        · rw [if_neg (by omega), if_neg (by omega)]
  refine jj_Ci.deep (d := d + 1) (by omega) (kX4_rule hq hx hy hl (by omega) (by omega) (fun c => ⟨_, _, rfl, by omega, ?_⟩) (fun c => ⟨_, _, rfl, by omega, ?_⟩) (fun c => ⟨_, _, rfl, by omega, ?_⟩) (fun c => ⟨_, _, rfl, by omega, ?_⟩) (fun c => ⟨_, _, rfl, by omega, ?_⟩))
  · refine jj_Ci.deep (d := d + 2) (by omega) (kX5_rule hq hx hy hl (by omega) (by omega) (fun c' => ⟨rfl, b, _, _, rfl, h⟩) (fun c' => by omega) (fun c' => by omega))
  · refine jj_Ci.deep (d := d + 2) (by omega) (kX5_rule hq hx hy hl (by omega) (by omega) (fun c' => by omega) (fun c' => ⟨rfl, b, _, _, rfl, h⟩) (fun c' => by omega))
  · refine jj_Ci.deep (d := d + 2) (by omega) (kX5_rule hq hx hy hl (by simp [zu]; omega) (by simp [zu]; omega) (fun c' => by simp [zu] at c'; omega) (fun c' => by simp [zu] at c'; omega) (fun c' => ⟨by simp [zu]; omega, bkRule b q x y l, _, _, rfl, ?_⟩))
    have := fin (zu (zu (zu (zu (zu (zu Z 0 5 0) 0 6 0) 4 ((Z 1 1).toNat) q) 7 ((Z 1 1).toNat) l) 8 ((Z 1 1).toNat) 1) 1 1 ((Z 1 1) + 1)) (by omega) (by omega) (by omega) (by omega) (by simp [zu]) (by simp [zu]) (by simp [zu]) (by simp [zu]) (fun k => by simp [zu]) (fun k => by simp [zu, t1]) (fun z => absurd c.2.1 z) (fun k _ => by simp [zu]) (fun r t hr ht => ?_) (fun t => by simp [zu]) (fun a k ha => by simp [zu, show ¬ a = 0 by omega, show ¬ a = 1 by omega, show ¬ a = 4 by omega, show ¬ a = 7 by omega, show ¬ a = 8 by omega])
    · simp only [zu] at this ⊢
      simp [t2] at this ⊢
      exact this
    · have a5 := x5 r t hr ht
      simp [zu]
      rw [a5]
      by_cases e : r = bM b
      · rw [rk_F e, if_neg (by omega)]; exact hB.2.2.2.2.2.1 r t (Or.inl (by omega))
      · rw [rn_F e]
  · refine jj_Ci.deep (d := d + 2) (by omega) (kX5_rule hq hx hy hl (by simp [zu]; omega) (by simp [zu]; omega) (fun c' => by simp [zu] at c'; omega) (fun c' => by simp [zu] at c'; omega) (fun c' => ⟨by simp [zu]; omega, bkRule b q x y l, _, _, rfl, ?_⟩))
    have := fin (zu (zu (zu (zu (zu (zu (zu (zu (zu (zu Z 0 5 0) 0 6 0) 4 ((Z 1 1).toNat) q) 7 ((Z 1 1).toNat) l) 8 ((Z 1 1).toNat) 1) 1 1 ((Z 1 1) + 1)) 5 ((Z 1 1).toNat) x) 6 ((Z 1 1).toNat) y) 9 ((((Z 1 1) * 4) + x).toNat) (((zu (zu (zu (zu (zu (zu (zu (zu Z 0 5 0) 0 6 0) 4 ((Z 1 1).toNat) q) 7 ((Z 1 1).toNat) l) 8 ((Z 1 1).toNat) 1) 1 1 ((Z 1 1) + 1)) 5 ((Z 1 1).toNat) x) 6 ((Z 1 1).toNat) y) 9 ((((Z 1 1) * 4) + x).toNat)) + 1)) 9 ((((Z 1 1) * 4) + y).toNat) (((zu (zu (zu (zu (zu (zu (zu (zu (zu Z 0 5 0) 0 6 0) 4 ((Z 1 1).toNat) q) 7 ((Z 1 1).toNat) l) 8 ((Z 1 1).toNat) 1) 1 1 ((Z 1 1) + 1)) 5 ((Z 1 1).toNat) x) 6 ((Z 1 1).toNat) y) 9 ((((Z 1 1) * 4) + x).toNat) (((zu (zu (zu (zu (zu (zu (zu (zu Z 0 5 0) 0 6 0) 4 ((Z 1 1).toNat) q) 7 ((Z 1 1).toNat) l) 8 ((Z 1 1).toNat) 1) 1 1 ((Z 1 1) + 1)) 5 ((Z 1 1).toNat) x) 6 ((Z 1 1).toNat) y) 9 ((((Z 1 1) * 4) + x).toNat)) + 1)) 9 ((((Z 1 1) * 4) + y).toNat)) - 1)) (by omega) (by omega) (by omega) (by omega) (by simp [zu]) (by simp [zu]) (by simp [zu]) (by simp [zu]) (fun k => by simp [zu]) (fun k => by simp [zu, t1]) (fun z => by simp [zu, t1]) (fun k hk => by simp [zu, t1, hk]) (fun r t hr ht => ?_) (fun t => by simp [zu]) (fun a k ha => by simp [zu, show ¬ a = 0 by omega, show ¬ a = 1 by omega, show ¬ a = 4 by omega, show ¬ a = 5 by omega, show ¬ a = 6 by omega, show ¬ a = 7 by omega, show ¬ a = 8 by omega, show ¬ a = 9 by omega])
    · simp only [zu] at this ⊢
      simp [t2] at this ⊢
      exact this
    · have a5 := x5 r t hr ht
      obtain ⟨xn, rfl⟩ := Int.eq_ofNat_of_zero_le c.2.2.1.1.1
      obtain ⟨yn, rfl⟩ := Int.eq_ofNat_of_zero_le c.2.2.1.2.1
      have ia : ((Z 1 1) * 4 + (xn : Int)).toNat = bM b * 4 + xn := by omega
      have ib : ((Z 1 1) * 4 + (yn : Int)).toNat = bM b * 4 + yn := by omega
      have hz : ∀ t, t < 4 → Z 9 (bM b * 4 + t) = 0 := fun t ht => by
        rw [x5 (bM b) t (by omega) ht]; exact hB.2.2.2.2.2.1 _ t (Or.inl (Nat.le_refl _))
      have h1 := hz xn (by omega)
      have h2 := hz yn (by omega)
      simp only [zu, ia, ib]
      simp [h1, h2]
      by_cases e : r = bM b
      · rw [rk_F e, if_pos c.2.1, e]
        have h3 := hz t ht
        by_cases ex : xn = t
        · by_cases ey : yn = t
          · subst ex; subst ey; simp
          · subst ex
            have n1 : ¬ yn = xn := ey
            have n2 : ¬ xn = yn := fun z => ey z.symm
            simp [n1, n2]
            rw [if_neg (by omega)]; rfl
        · by_cases ey : yn = t
          · subst ey
            have n1 : ¬ yn = xn := fun z => ex z.symm
            simp [ex, n1, h2]
            rw [if_neg (by omega)]; rfl
          · have n1 : ¬ t = xn := fun z => ex z.symm
            have n2 : ¬ t = yn := fun z => ey z.symm
            simp [ex, ey, n1, n2, h3]
            rw [if_neg (by omega), if_neg (by omega)]; rfl
      · rw [rn_F e]
        have n1 : ¬ r * 4 + t = bM b * 4 + xn := by omega
        have n2 : ¬ r * 4 + t = bM b * 4 + yn := by omega
        simp [n1, n2]; exact a5
  · refine jj_Ci.deep (d := d + 2) (by omega) (kX5_rule hq hx hy hl (by simp [zu]; omega) (by simp [zu]; omega) (fun c' => by simp [zu] at c'; omega) (fun c' => by simp [zu] at c'; omega) (fun c' => ⟨by simp [zu]; omega, bkRule b q x y l, _, _, rfl, ?_⟩))
    have := fin (zu (zu (zu (zu (zu (zu (zu (zu Z 0 5 0) 0 6 0) 4 ((Z 1 1).toNat) q) 7 ((Z 1 1).toNat) l) 8 ((Z 1 1).toNat) 1) 1 1 ((Z 1 1) + 1)) 5 ((Z 1 1).toNat) x) 6 ((Z 1 1).toNat) y) (by omega) (by omega) (by omega) (by omega) (by simp [zu]) (by simp [zu]) (by simp [zu]) (by simp [zu]) (fun k => by simp [zu]) (fun k => by simp [zu, t1]) (fun z => by simp [zu, t1]) (fun k hk => by simp [zu, t1, hk]) (fun r t hr ht => ?_) (fun t => by simp [zu]) (fun a k ha => by simp [zu, show ¬ a = 0 by omega, show ¬ a = 1 by omega, show ¬ a = 4 by omega, show ¬ a = 5 by omega, show ¬ a = 6 by omega, show ¬ a = 7 by omega, show ¬ a = 8 by omega, show ¬ a = 9 by omega])
    · simp only [zu] at this ⊢
      simp [t2] at this ⊢
      exact this
    · have a5 := x5 r t hr ht
      simp [zu]
      rw [a5]
      by_cases e : r = bM b
      · rw [rk_F e, if_neg (by omega)]; exact hB.2.2.2.2.2.1 r t (Or.inl (by omega))
      · rw [rn_F e]
end OP3

/-! the book, as numbers; what ties the two books of the machine to it -/
abbrev Bk : Type := (Nat × Nat) × ((Nat → Int) × (Nat → Int)) × ((Nat → Int) × (Nat → Int) × (Nat → Int) × (Nat → Int) × (Nat → Int)) × (Nat → Nat → Int)
abbrev bN (b : Bk) : Nat := b.1.1
abbrev bM (b : Bk) : Nat := b.1.2
abbrev bW (b : Bk) : Nat → Int := b.2.1.1
abbrev bT (b : Bk) : Nat → Int := b.2.1.2
abbrev bK (b : Bk) : Nat → Int := b.2.2.1.1
abbrev bL (b : Bk) : Nat → Int := b.2.2.1.2.1
abbrev bR (b : Bk) : Nat → Int := b.2.2.1.2.2.1
abbrev bI (b : Bk) : Nat → Int := b.2.2.1.2.2.2.1
abbrev bO (b : Bk) : Nat → Int := b.2.2.1.2.2.2.2
abbrev bF (b : Bk) : Nat → Nat → Int := b.2.2.2
/-- what a book may hold -/
def BR (b : Bk) : Prop := bN b ≤ 4 ∧ bM b ≤ 6 ∧ (∀ t, t < bN b → -99 ≤ bW b t ∧ bW b t ≤ 99 ∧ 0 ≤ bT b t ∧ bT b t ≤ 9) ∧
  (∀ r, r < bM b → 0 ≤ bK b r ∧ bK b r ≤ 2 ∧ 0 ≤ bI b r ∧ (bI b r ≤ 9 ∨ (bK b r = 0 ∧ bI b r ≤ 999)) ∧ (bO b r = 0 ∨ bO b r = 1) ∧ (¬ bK b r = 0 → 0 ≤ bL b r ∧ bL b r < bN b ∧ 0 ≤ bR b r ∧ bR b r < bN b)) ∧
  (∀ r t, r < bM b → t < bN b → -9 ≤ bF b r t ∧ bF b r t ≤ 9) ∧ (∀ r t, (bM b ≤ r ∨ bN b ≤ t) → bF b r t = 0) ∧
  (∀ r t, r < bM b → bK b r = 1 → bF b r t = (if bL b r = (t : Int) then 1 else 0) - (if bR b r = (t : Int) then 1 else 0)) ∧ (∀ r t, r < bM b → bK b r = 2 → bF b r t = 0)
/-- the book of the class -/
def XB (Z : Nat → Nat → Int) (b : Bk) : Prop := Z 1 0 = (bN b : Nat) ∧ Z 1 1 = (bM b : Nat) ∧ (∀ t, t < bN b → Z 2 t = bW b t ∧ Z 3 t = bT b t) ∧
  (∀ r, r < bM b → Z 4 r = bK b r ∧ Z 7 r = bI b r ∧ Z 8 r = bO b r ∧ (¬ bK b r = 0 → Z 5 r = bL b r ∧ Z 6 r = bR b r)) ∧ (∀ r t, r < 6 → t < 4 → Z 9 (r * 4 + t) = bF b r t)
/-- the book of the reference -/
def MB (Z : Nat → Nat → Int) (b : Bk) : Prop := Z 27 0 = (bN b : Nat) ∧ Z 27 3 = (bM b : Nat) ∧ (∀ t, t < bN b → Z 28 t = bW b t ∧ Z 29 t = bT b t) ∧
  (∀ r, r < bM b → Z 30 r = bK b r ∧ Z 33 r = bI b r ∧ Z 34 r = bO b r ∧ (¬ bK b r = 0 → Z 31 r = bL b r ∧ Z 32 r = bR b r)) ∧ (∀ r t, r < 6 → t < 4 → Z 35 (4 * r + t) = if r < bM b ∧ bK b r = 0 then bF b r t else 0)
def PB (Z : Nat → Nat → Int) : Prop := ∀ t, t < 4 → Z 26 t = Z 36 t ∧ 0 ≤ Z 36 t ∧ Z 36 t ≤ 9
/-- two heaps that differ in no cell of a set -/
def fr (P : Nat → Prop) (Z Z' : Nat → Nat → Int) : Prop := ∀ a, P a → ∀ k, Z' a k = Z a k
def xbc (a : Nat) : Prop := 1 ≤ a ∧ a ≤ 9
def mbc (a : Nat) : Prop := 28 ≤ a ∧ a ≤ 35
theorem XB.fr {Z Z' : Nat → Nat → Int} {b : Bk} (h : XB Z b) (f : fr xbc Z Z') : XB Z' b := by
  obtain ⟨h1, h2, h3, h4, h5⟩ := h
  refine ⟨by rw [f 1 (by unfold xbc; omega)]; exact h1, by rw [f 1 (by unfold xbc; omega)]; exact h2, fun t ht => ?_, fun r hr => ?_, fun r t hr ht => by rw [f 9 (by unfold xbc; omega)]; exact h5 r t hr ht⟩
  · rw [f 2 (by unfold xbc; omega), f 3 (by unfold xbc; omega)]; exact h3 t ht
  · rw [f 4 (by unfold xbc; omega), f 5 (by unfold xbc; omega), f 6 (by unfold xbc; omega), f 7 (by unfold xbc; omega), f 8 (by unfold xbc; omega)]; exact h4 r hr
theorem MB.fr {Z Z' : Nat → Nat → Int} {b : Bk} (h : MB Z b) (f : fr mbc Z Z') (f0 : Z' 27 0 = Z 27 0) (f3 : Z' 27 3 = Z 27 3) : MB Z' b := by
  obtain ⟨h1, h2, h3, h4, h5⟩ := h
  refine ⟨by rw [f0]; exact h1, by rw [f3]; exact h2, fun t ht => ?_, fun r hr => ?_, fun r t hr ht => by rw [f 35 (by unfold mbc; omega)]; exact h5 r t hr ht⟩
  · rw [f 28 (by unfold mbc; omega), f 29 (by unfold mbc; omega)]; exact h3 t ht
  · rw [f 30 (by unfold mbc; omega), f 31 (by unfold mbc; omega), f 32 (by unfold mbc; omega), f 33 (by unfold mbc; omega), f 34 (by unfold mbc; omega)]; exact h4 r hr
/-- a new THING -/
def bkThing (b : Bk) (w q : Int) : Bk := ((bN b + 1, bM b), ((fun t => if t = bN b then w else bW b t), (fun t => if t = bN b then q else bT b t)), (bK b, bL b, bR b, bI b, bO b), bF b)
/-- a new RULE -/
def bkRule (b : Bk) (q x y l : Int) : Bk := ((bN b, bM b + 1), (bW b, bT b), ((fun r => if r = bM b then q else bK b r), (fun r => if r = bM b then x else bL b r), (fun r => if r = bM b then y else bR b r), (fun r => if r = bM b then l else bI b r), (fun r => if r = bM b then 1 else bO b r)), (fun r t => if r = bM b then (if q = 1 then (if x = (t : Int) then 1 else 0) - (if y = (t : Int) then 1 else 0) else 0) else bF b r t))
def bkAmount (b : Bk) (r t : Nat) (v : Int) : Bk := (b.1, b.2.1, b.2.2.1, (fun r' t' => if r' = r ∧ t' = t then v else bF b r' t'))
def bkOn (b : Bk) (r : Nat) (v : Int) : Bk := (b.1, b.2.1, (bK b, bL b, bR b, bI b, (fun r' => if r' = r then v else bO b r')), bF b)
def bkLimit (b : Bk) (r : Nat) (v : Int) : Bk := (b.1, b.2.1, (bK b, bL b, bR b, (fun r' => if r' = r then v else bI b r'), bO b), bF b)
def bkWorth (b : Bk) (t : Nat) (v : Int) : Bk := (b.1, ((fun t' => if t' = t then v else bW b t'), bT b), b.2.2)
def bkMost (b : Bk) (t : Nat) (v : Int) : Bk := (b.1, (bW b, (fun t' => if t' = t then v else bT b t')), b.2.2)
theorem BR.thing {b : Bk} {w q : Int} (h : BR b) (hn : bN b < 4) (hw : -99 ≤ w ∧ w ≤ 99) (hq : 0 ≤ q ∧ q ≤ 9) : BR (bkThing b w q) := by
  obtain ⟨h1, h2, h3, h4, h5, h6, h7, h8⟩ := h
  refine ⟨by show bN b + 1 ≤ 4; omega, h2, fun t ht => ?_, fun r hr => ?_, fun r t hr ht => ?_, fun r t hrt => ?_, h7, h8⟩
  · have ht : t < bN b + 1 := ht
    show -99 ≤ (if t = bN b then w else bW b t) ∧ (if t = bN b then w else bW b t) ≤ 99 ∧ 0 ≤ (if t = bN b then q else bT b t) ∧ (if t = bN b then q else bT b t) ≤ 9
    by_cases e : t = bN b
    · rw [if_pos e, if_pos e]; omega
    · rw [if_neg e, if_neg e]; exact h3 t (by omega)
  · obtain ⟨a1, a2, a3, a4, a5, a6⟩ := h4 r hr
    refine ⟨a1, a2, a3, a4, a5, fun hk => ?_⟩
    have := a6 hk
    show 0 ≤ bL b r ∧ bL b r < ((bN b + 1 : Nat) : Int) ∧ 0 ≤ bR b r ∧ bR b r < ((bN b + 1 : Nat) : Int)
    omega
  · have ht : t < bN b + 1 := ht
    show -9 ≤ bF b r t ∧ bF b r t ≤ 9
    by_cases e : t < bN b
    · exact h5 r t hr e
    · rw [h6 r t (Or.inr (by omega))]; omega
  · have hrt : bM b ≤ r ∨ bN b + 1 ≤ t := hrt
    exact h6 r t (by omega)
section RK
variable {b : Bk} {q x y l : Int} {r : Nat}
theorem rk_K (e : r = bM b) : bK (bkRule b q x y l) r = q := if_pos e
theorem rk_L (e : r = bM b) : bL (bkRule b q x y l) r = x := if_pos e
theorem rk_R (e : r = bM b) : bR (bkRule b q x y l) r = y := if_pos e
theorem rk_I (e : r = bM b) : bI (bkRule b q x y l) r = l := if_pos e
theorem rk_O (e : r = bM b) : bO (bkRule b q x y l) r = 1 := if_pos e
theorem rk_F (e : r = bM b) (t : Nat) : bF (bkRule b q x y l) r t = if q = 1 then (if x = (t : Int) then 1 else 0) - (if y = (t : Int) then 1 else 0) else 0 := if_pos e
theorem rn_K (e : ¬ r = bM b) : bK (bkRule b q x y l) r = bK b r := if_neg e
theorem rn_L (e : ¬ r = bM b) : bL (bkRule b q x y l) r = bL b r := if_neg e
theorem rn_R (e : ¬ r = bM b) : bR (bkRule b q x y l) r = bR b r := if_neg e
theorem rn_I (e : ¬ r = bM b) : bI (bkRule b q x y l) r = bI b r := if_neg e
theorem rn_O (e : ¬ r = bM b) : bO (bkRule b q x y l) r = bO b r := if_neg e
theorem rn_F (e : ¬ r = bM b) (t : Nat) : bF (bkRule b q x y l) r t = bF b r t := if_neg e
end RK
theorem BR.rule {b : Bk} {q x y l : Int} (h : BR b) (hm : bM b < 6) (hq : 0 ≤ q ∧ q ≤ 2) (hl : 0 ≤ l ∧ ((q = 0 ∧ l ≤ 999) ∨ (¬ q = 0 ∧ l ≤ 9))) (hx : q = 0 ∨ ((0 ≤ x ∧ x < bN b) ∧ (0 ≤ y ∧ y < bN b))) : BR (bkRule b q x y l) := by
  obtain ⟨h1, h2, h3, h4, h5, h6, h7, h8⟩ := h
  have hN : bN (bkRule b q x y l) = bN b := rfl
  have hMm : bM (bkRule b q x y l) = bM b + 1 := rfl
  refine ⟨h1, by rw [hMm]; omega, h3, fun r hr => ?_, fun r t hr ht => ?_, fun r t hrt => ?_, fun r t hr hk => ?_, fun r t hr hk => ?_⟩
  · rw [hMm] at hr
    rw [hN]
    by_cases e : r = bM b
    · rw [rk_K e, rk_L e, rk_R e, rk_I e, rk_O e]; omega
    · rw [rn_K e, rn_L e, rn_R e, rn_I e, rn_O e]; exact h4 r (by omega)
  · rw [hMm] at hr
    rw [hN] at ht
    by_cases e : r = bM b
    · rw [rk_F e]
      by_cases eq : q = 1
      · rw [if_pos eq]; split <;> split <;> omega
      · rw [if_neg eq]; omega
    · rw [rn_F e]; exact h5 r t (by omega) ht
  · rw [hMm, hN] at hrt
    by_cases e : r = bM b
    · rw [rk_F e]
      by_cases eq : q = 1
      · rw [if_pos eq, if_neg (by omega), if_neg (by omega)]; rfl
      · rw [if_neg eq]
    · rw [rn_F e]; exact h6 r t (by omega)
  · rw [hMm] at hr
    by_cases e : r = bM b
    · rw [rk_K e] at hk
      rw [rk_F e, rk_L e, rk_R e, if_pos hk]
    · rw [rn_K e] at hk
      rw [rn_F e, rn_L e, rn_R e]; exact h7 r t (by omega) hk
  · rw [hMm] at hr
    by_cases e : r = bM b
    · rw [rk_K e] at hk
      rw [rk_F e, if_neg (by omega)]
    · rw [rn_K e] at hk
      rw [rn_F e]; exact h8 r t (by omega) hk
theorem am_F {b : Bk} {r t : Nat} {v : Int} (r' t' : Nat) : bF (bkAmount b r t v) r' t' = if r' = r ∧ t' = t then v else bF b r' t' := rfl
theorem on_O {b : Bk} {r : Nat} {v : Int} (r' : Nat) : bO (bkOn b r v) r' = if r' = r then v else bO b r' := rfl
theorem li_I {b : Bk} {r : Nat} {v : Int} (r' : Nat) : bI (bkLimit b r v) r' = if r' = r then v else bI b r' := rfl
theorem wo_W {b : Bk} {r : Nat} {v : Int} (r' : Nat) : bW (bkWorth b r v) r' = if r' = r then v else bW b r' := rfl
theorem mo_T {b : Bk} {r : Nat} {v : Int} (r' : Nat) : bT (bkMost b r v) r' = if r' = r then v else bT b r' := rfl
theorem BR.amount {b : Bk} {r t : Nat} {v : Int} (h : BR b) (hr : r < bM b) (ht : t < bN b) (hk : bK b r = 0) (hv : -9 ≤ v ∧ v ≤ 9) : BR (bkAmount b r t v) := by
  obtain ⟨h1, h2, h3, h4, h5, h6, h7, h8⟩ := h
  refine ⟨h1, h2, h3, h4, fun r' t' hr' ht' => ?_, fun r' t' hrt => ?_, fun r' t' hr' hk' => ?_, fun r' t' hr' hk' => ?_⟩
  · rw [am_F]
    split
    · exact hv
    · exact h5 r' t' hr' ht'
  · have hrt : bM b ≤ r' ∨ bN b ≤ t' := hrt
    rw [am_F, if_neg (by omega)]; exact h6 r' t' hrt
  · have hk' : bK b r' = 1 := hk'
    rw [am_F, if_neg (by rintro ⟨rfl, -⟩; omega)]; exact h7 r' t' hr' hk'
  · have hk' : bK b r' = 2 := hk'
    rw [am_F, if_neg (by rintro ⟨rfl, -⟩; omega)]; exact h8 r' t' hr' hk'
theorem BR.on {b : Bk} {r : Nat} {v : Int} (h : BR b) (hv : v = 0 ∨ v = 1) : BR (bkOn b r v) := by
  obtain ⟨h1, h2, h3, h4, h5, h6, h7, h8⟩ := h
  refine ⟨h1, h2, h3, fun r' hr' => ?_, h5, h6, h7, h8⟩
  obtain ⟨a1, a2, a3, a4, a5, a6⟩ := h4 r' hr'
  refine ⟨a1, a2, a3, a4, ?_, a6⟩
  rw [on_O]
  split
  · exact hv
  · exact a5
theorem BR.limit {b : Bk} {r : Nat} {v : Int} (h : BR b) (hv : 0 ≤ v ∧ ((bK b r = 0 ∧ v ≤ 999) ∨ (¬ bK b r = 0 ∧ v ≤ 9))) : BR (bkLimit b r v) := by
  obtain ⟨h1, h2, h3, h4, h5, h6, h7, h8⟩ := h
  refine ⟨h1, h2, h3, fun r' hr' => ?_, h5, h6, h7, h8⟩
  obtain ⟨a1, a2, a3, a4, a5, a6⟩ := h4 r' hr'
  refine ⟨a1, a2, ?_, ?_, a5, a6⟩
  · rw [li_I]; split <;> omega
  · rw [li_I]
    have ek : bK (bkLimit b r v) r' = bK b r' := rfl
    rw [ek]
    split
    · next e => rw [e]; omega
    · exact a4
theorem BR.worth {b : Bk} {t : Nat} {v : Int} (h : BR b) (hv : -99 ≤ v ∧ v ≤ 99) : BR (bkWorth b t v) := by
  obtain ⟨h1, h2, h3, h4, h5, h6, h7, h8⟩ := h
  refine ⟨h1, h2, fun t' ht' => ?_, h4, h5, h6, h7, h8⟩
  obtain ⟨a1, a2, a3, a4⟩ := h3 t' ht'
  refine ⟨?_, ?_, a3, a4⟩ <;> rw [wo_W] <;> split <;> omega
theorem BR.most {b : Bk} {t : Nat} {v : Int} (h : BR b) (hv : 0 ≤ v ∧ v ≤ 9) : BR (bkMost b t v) := by
  obtain ⟨h1, h2, h3, h4, h5, h6, h7, h8⟩ := h
  refine ⟨h1, h2, fun t' ht' => ?_, h4, h5, h6, h7, h8⟩
  obtain ⟨a1, a2, a3, a4⟩ := h3 t' ht'
  refine ⟨a1, a2, ?_, ?_⟩ <;> rw [mo_T] <;> split <;> omega

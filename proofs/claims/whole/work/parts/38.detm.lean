/-! the reference's determinant, from its rows -/
section DM
variable {d : Nat} {Z : Nat → Nat → Int} {S : Nat × (Nat → Int32)} {Q : Option Value → jj_Hp → Prop} {x : Int} {N : Nat} {A : Nat → Nat → Int}
theorem lX5_det15 {Y0 : Nat → Nat → Int} {i : Nat} {v5 v6 v7 v8 v9 v10 v11 v12 : Value} (hN : N ≤ 4) (hx : i32 x) (hi : i < N) (hch : 0 ≤ Z 44 i ∧ Z 44 i < 14) (hb : ∀ i t, i < N → t < N → bdd (A i t) 99) (hA : ∀ i t, i < N → t < N → A i t = if (i : Int) = x then Z 28 t else Z 41 (4 * (Z 44 i).toNat + t)) : ∀ (n t : Nat) (Y : Nat → Nat → Int), t + n = N → y45 Y0 Y → (∀ j u, j < i → u < N → Y 45 (4 * j + u) = A j u) → (∀ u, u < t → Y 45 (4 * i + u) = A i u) → (∀ Y', y45 Y0 Y' → (∀ j u, j < i + 1 → u < N → Y' 45 (4 * j + u) = A j u) → jj_Ex d mX5_determinant 71 [.ref 27, iv x, iv (N : Int), iv (i : Int), iv (N : Int), v5, v6, v7, v8, v9, v10, v11, v12] [] (jj_h Z Y' S) Q) → jj_Ex d mX5_determinant 15 [.ref 27, iv x, iv (N : Int), iv (i : Int), iv (t : Int), v5, v6, v7, v8, v9, v10, v11, v12] [] (jj_h Z Y S) Q := by
  intro n
  induction n with
  | zero =>
    intro t Y ht f h1 h2 c
    refine bX5_determinant_15 (by omega) (by omega) (fun _ => ?_) (fun z => by omega)
    have := c Y f (fun j u hj hu => by
      by_cases e : j = i
      · subst e; exact h2 u (by omega)
      · exact h1 j u (by omega) hu)
    rw [show N = t by omega] at this ⊢
    exact this
  | succ n ih =>
    intro t Y ht f h1 h2 c
    have e1 : ((4 * (i : Int)) + (t : Int)).toNat = 4 * i + t := by omega
    have e2 : ((i : Int)).toNat = i := Int.toNat_natCast i
    have e3 : ((t : Int)).toNat = t := Int.toNat_natCast t
    have hA1 := hA i t hi (by omega)
    have hb1 := hb i t hi (by omega)
    unfold bdd at hb1
    have nx : jj_Ex d mX5_determinant 15 [.ref 27, iv x, iv (N : Int), iv (i : Int), iv ((t : Int) + 1), v5, v6, v7, v8, v9, v10, v11, v12] [] (jj_h Z (zu Y 45 (4 * i + t) (A i t)) S) Q := by
      refine ih (t + 1) _ (by omega) (fun a ha j => by rw [zu_ne ha]; exact f a ha j) (fun j u hj hu => ?_) (fun u hu => ?_) c
      · rw [zu_nk (by omega)]; exact h1 j u hj hu
      · by_cases e : u = t
        · subst e; rw [zu_at]
        · rw [zu_nk (by omega)]; exact h2 u (by omega)
    refine bX5_determinant_15 (by omega) (by omega) (fun z => by omega) (fun _ => bX5_determinant_21 (by omega) hx (fun e => ?_) (fun e => ?_))
    · rw [if_neg e] at hA1
      have e4 : ((4 * Z 44 i) + (t : Int)).toNat = 4 * (Z 44 i).toNat + t := by omega
      refine bX5_determinant_47 (by omega) (by omega) (by rw [e2]; omega) (by rw [e2]; omega) (by rw [e2, e4, ← hA1]; omega) (by omega) (by omega) ?_
      rw [e1, e2, e4, ← hA1]; exact nx
    · rw [if_pos e] at hA1
      refine bX5_determinant_36 (by omega) (by omega) (by rw [e3, ← hA1]; omega) (by omega) (by omega) ?_
      rw [e1, e3, ← hA1]; exact nx
theorem lX5_det7 {Y0 : Nat → Nat → Int} {v5 v6 v7 v8 v9 v10 v11 v12 : Value} (hN : N ≤ 4) (hx : i32 x) (hch : ∀ i, i < N → 0 ≤ Z 44 i ∧ Z 44 i < 14) (hb : ∀ i t, i < N → t < N → bdd (A i t) 99) (hA : ∀ i t, i < N → t < N → A i t = if (i : Int) = x then Z 28 t else Z 41 (4 * (Z 44 i).toNat + t)) : ∀ (n i : Nat) (Y : Nat → Nat → Int) (v4 : Value), i + n = N → y45 Y0 Y → (∀ j u, j < i → u < N → Y 45 (4 * j + u) = A j u) → (∀ Y' v4, y45 Y0 Y' → (∀ j u, j < N → u < N → Y' 45 (4 * j + u) = A j u) → jj_Ex d mX5_determinant 77 [.ref 27, iv x, iv (N : Int), iv (N : Int), v4, v5, v6, v7, v8, v9, v10, v11, v12] [] (jj_h Z Y' S) Q) → jj_Ex d mX5_determinant 7 [.ref 27, iv x, iv (N : Int), iv (i : Int), v4, v5, v6, v7, v8, v9, v10, v11, v12] [] (jj_h Z Y S) Q := by
  intro n
  induction n with
  | zero =>
    intro i Y v4 hi f h c
    refine bX5_determinant_7 (by omega) (by omega) (fun _ => ?_) (fun z => by omega)
    have := c Y v4 f (fun j u hj hu => h j u (by omega) hu)
    rw [show N = i by omega] at this ⊢
    exact this
  | succ n ih =>
    intro i Y v4 hi f h c
    exact bX5_determinant_7 (by omega) (by omega) (fun z => by omega) (fun _ => bX5_determinant_12 (lX5_det15 (Y0 := Y0) hN hx (by omega) (hch i (by omega)) hb hA N 0 Y (by omega) f h (fun u hu => by omega) (fun Y' f' h' => bX5_determinant_71 (ih (i + 1) Y' _ (by omega) f' h' c))))
theorem kX5_determinant {Y : Nat → Nat → Int} {Kl : Int → jj_Hp → Prop} (hZ : Z 27 0 = (N : Int)) (hN : N ≤ 4) (hx : i32 x) (hch : ∀ i, i < N → 0 ≤ Z 44 i ∧ Z 44 i < 14) (hb : ∀ i t, i < N → t < N → bdd (A i t) 99) (hA : ∀ i t, i < N → t < N → A i t = if (i : Int) = x then Z 28 t else Z 41 (4 * (Z 44 i).toNat + t)) (k : ∀ Y', y45 Y Y' → Kl (jdt N A) (jj_h Z Y' S)) : jj_Cl d mX5_determinant [.ref 27, iv x] (jj_h Z Y S) Kl := by
  refine nX5_determinant (bX5_determinant_0 ?_)
  rw [hZ]
  refine lX5_det7 (Y0 := Y) hN hx hch hb hA N 0 Y _ (by omega) fr.rf (fun j u hj hu => by omega) (fun Y' v4 f h => bX5_determinant_77 ?_)
  exact lX5_det85 (Y0 := Y) (D := jdt N A) (x := x) hN (fun Y2 f2 => ⟨_, rfl, k Y2 f2⟩) N 0 A Y' 1 _ _ _ _ _ (by omega) f hb (by show (1 : Int) ≠ 0; omega) (Int.one_mul _) (fun j u _ h2 _ h4 => h j u h2 h4)
end DM

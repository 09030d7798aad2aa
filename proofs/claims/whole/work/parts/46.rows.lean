/-! the reference's rows -/
def rwc (a : Nat) : Prop := ¬ (a = 27 ∨ a = 41 ∨ a = 42 ∨ a = 43)
def m19 (Z Z' : Nat → Nat → Int) : Prop := fr rwc Z Z' ∧ ∀ j, ¬ j = 19 → Z' 27 j = Z 27 j
theorem m19.trans {Z Z' Z'' : Nat → Nat → Int} (h : m19 Z Z') (h' : m19 Z' Z'') : m19 Z Z'' := ⟨h.1.trans h'.1, fun j hj => (h'.2 j hj).trans (h.2 j hj)⟩
theorem m19.rf {Z : Nat → Nat → Int} : m19 Z Z := ⟨fr.rf, fun _ _ => rfl⟩
theorem mb_19 {Z Z' : Nat → Nat → Int} {b : Bk} (h : MB Z b) (f : m19 Z Z') : MB Z' b := h.fr (f.1.mono (fun a ha => by unfold mbc at ha; unfold rwc; omega)) (f.2 0 (by omega)) (f.2 3 (by omega))
/-- the first rows are written -/
def RS (b : Bk) (Z : Nat → Nat → Int) (R : Nat) : Prop := Z 27 19 = (R : Int) ∧ ∀ k, k < R → (∀ t, t < bN b → Z 41 (4 * k + t) = rowf b k t) ∧ Z 42 k = bnd b k ∧ Z 43 k = rul b k
section RW
variable {d : Nat} {Y : Nat → Nat → Int} {S : Nat × (Nat → Int32)} {Q : Option Value → jj_Hp → Prop} {K : jj_Hp → Prop} {b : Bk}
theorem lX5_addRow {Z0 : Nat → Nat → Int} {R : Nat} {bv rv : Int} (hR : R < 14) (hn : Z0 27 19 = (R : Int)) (hQ : ∀ Z', fr (fun a => ¬ a = 41) Z0 Z' → (∀ j, ¬ j / 4 = R → Z' 41 j = Z0 41 j) → (∀ t, t < 4 → Z' 41 (4 * R + t) = 0) → Q none (jj_h (zu Z' 27 19 ((R : Int) + 1)) Y S)) : ∀ (n t : Nat) (Z : Nat → Nat → Int), t + n = 4 → fr (fun a => ¬ a = 41) Z0 Z → (∀ j, ¬ j / 4 = R → Z 41 j = Z0 41 j) → (∀ u, u < t → Z 41 (4 * R + u) = 0) → jj_Ex d mX5_addRow 22 [.ref 27, iv bv, iv rv, iv (t : Int)] [] (jj_h Z Y S) Q := by
  intro n
  induction n with
  | zero =>
    intro t Z ht f h1 h2
    have e := f 27 (by omega) 19
    refine bX5_addRow_22 (by omega) (fun _ => bX5_addRow_47 ?_) (fun z => by omega)
    rw [e, hn]
    exact hQ Z f h1 (fun u hu => h2 u (by omega))
  | succ n ih =>
    intro t Z ht f h1 h2
    have e := f 27 (by omega) 19
    have e1 : ((4 * Z 27 19) + (t : Int)).toNat = 4 * R + t := by rw [e, hn]; omega
    refine bX5_addRow_22 (by omega) (fun z => by omega) (fun _ => bX5_addRow_27 (by rw [e, hn]; omega) (by rw [e, hn]; omega) ?_)
    rw [e1]
    refine ih (t + 1) _ (by omega) (fun a ha j => by rw [zu_ne ha]; exact f a ha j) (fun j hj => ?_) (fun u hu => ?_)
    · rw [zu_nk (by omega)]; exact h1 j hj
    · by_cases eu : u = t
      · subst eu; rw [zu_at]
      · rw [zu_nk (by omega)]; exact h2 u (by omega)
theorem kX5_addRow {Z : Nat → Nat → Int} {R : Nat} {bv rv : Int} (hR : R < 14) (hn : Z 27 19 = (R : Int)) (k : ∀ Z', m19 Z Z' → Z' 27 19 = ((R + 1 : Nat) : Int) → (∀ i, ¬ i = R → Z' 42 i = Z 42 i ∧ Z' 43 i = Z 43 i) → Z' 42 R = bv → Z' 43 R = rv → (∀ j, ¬ j / 4 = R → Z' 41 j = Z 41 j) → (∀ t, t < 4 → Z' 41 (4 * R + t) = 0) → K (jj_h Z' Y S)) : jj_Cv d mX5_addRow [.ref 27, iv bv, iv rv] (jj_h Z Y S) K := by
  refine nX5_addRow (bX5_addRow_0 (by omega) (by omega) (by omega) (by omega) ?_)
  rw [show (Z 27 19).toNat = R by omega]
  refine lX5_addRow (Z0 := zu (zu Z 42 R bv) 43 R rv) hR (by rw [zu_ne (by omega), zu_ne (by omega)]; exact hn) (fun Z' f h1 h2 => ⟨rfl, k _ ⟨fun a ha j => ?_, fun j hj => ?_⟩ ?_ (fun i hi => ⟨?_, ?_⟩) ?_ ?_ (fun j hj => ?_) (fun t ht => ?_)⟩) 4 0 _ (by omega) fr.rf (fun _ _ => rfl) (fun u hu => by omega)
  · unfold rwc at ha
    rw [zu_ne (by omega), f a (by omega), zu_ne (by omega), zu_ne (by omega)]
  · rw [zu_nk hj, f 27 (by omega), zu_ne (by omega), zu_ne (by omega)]
  · rw [zu_at]; rfl
  · rw [zu_ne (by omega), f 42 (by omega), zu_ne (by omega), zu_nk hi]
  · rw [zu_ne (by omega), f 43 (by omega), zu_nk hi, zu_ne (by omega)]
  · rw [zu_ne (by omega), f 42 (by omega), zu_ne (by omega), zu_at]
  · rw [zu_ne (by omega), f 43 (by omega), zu_at]
  · rw [zu_ne (by omega), h1 j hj, zu_ne (by omega), zu_ne (by omega)]
  · rw [zu_ne (by omega)]; exact h2 t ht
theorem lX5_rows7 {Z0 : Nat → Nat → Int} {v2 v3 : Value} (hB : BR b) : ∀ (n t : Nat) (Z : Nat → Nat → Int), t + n = bN b → MB Z b → m19 Z0 Z → RS b Z (2 * t) → (∀ Z', MB Z' b → m19 Z0 Z' → RS b Z' (2 * bN b) → jj_Ex (d + 1) mX5_rowsNow 72 [.ref 27, iv ((bN b : Nat) : Int), v2, v3] [] (jj_h Z' Y S) Q) → jj_Ex (d + 1) mX5_rowsNow 7 [.ref 27, iv (t : Int), v2, v3] [] (jj_h Z Y S) Q := by
  have h4 := hB.1
  intro n
  induction n with
  | zero =>
    intro t Z ht hM f hR c
    have m1 := hM.1
    refine bX5_rowsNow_7 (by omega) (by omega) (fun _ => ?_) (fun z => by omega)
    rw [show t = bN b by omega] at hR ⊢
    exact c Z hM f hR
  | succ n ih =>
    intro t Z ht hM f hR c
    have m1 := hM.1
    have e2 : ((t : Int)).toNat = t := Int.toNat_natCast t
    have e29 := (hM.2.2.1 t (by omega)).2
    refine bX5_rowsNow_7 (by omega) (by omega) (fun z => by omega) (fun _ => bX5_rowsNow_15 (by omega) (by omega) ?_)
    rw [e2, e29]
    refine kX5_addRow (R := 2 * t) (by omega) hR.1 (fun Z1 f1 g1 g2 g3 g4 g5 g6 => bX5_rowsNow_27 (by rw [g1]; omega) (by rw [g1]; omega) ?_)
    rw [show (((4 * Z1 27 19) - 4) + (t : Int)).toNat = 4 * (2 * t) + t by rw [g1]; omega]
    refine kX5_addRow (R := 2 * t + 1) (by omega) (by rw [zu_ne (by omega)]; exact g1) (fun Z2 f2 w1 w2 w3 w4 w5 w6 => bX5_rowsNow_50 (by rw [w1]; omega) (by rw [w1]; omega) ?_)
    rw [show (((4 * Z2 27 19) - 4) + (t : Int)).toNat = 4 * (2 * t + 1) + t by rw [w1]; omega]
    have fz : m19 Z (zu Z2 41 (4 * (2 * t + 1) + t) (-1)) := by
      refine ⟨fun a ha j => ?_, fun j hj => ?_⟩
      · have ha' := ha
        unfold rwc at ha'
        rw [zu_ne (by omega), f2.1 a ha, zu_ne (by omega), f1.1 a ha]
      · rw [zu_ne (by omega), f2.2 j hj, zu_ne (by omega), f1.2 j hj]
    refine ih (t + 1) _ (by omega) (mb_19 hM fz) (f.trans fz) ⟨?_, fun k hk => ?_⟩ c
    · rw [zu_ne (by omega), w1]; omega
    · rw [zu_ne (show ¬ 42 = 41 by omega), zu_ne (show ¬ 43 = 41 by omega)]
      by_cases k1 : k = 2 * t + 1
      · subst k1
        rw [w3, w4]
        refine ⟨fun u hu => ?_, ?_, ?_⟩
        · rw [rowf_b b (by omega), show (2 * t + 1) / 2 = t by omega, show (2 * t + 1) % 2 = 1 by omega]
          by_cases eu : u = t
          · subst eu; rw [zu_at, if_pos rfl, if_neg (by omega)]
          · rw [zu_nk (by omega), if_neg eu]; exact w6 u (by omega)
        · unfold bnd; rw [if_pos (by omega), if_neg (by omega)]
        · unfold rul; rw [if_pos (by omega)]
      · rw [(w2 k k1).1, (w2 k k1).2, zu_ne (show ¬ 42 = 41 by omega), zu_ne (show ¬ 43 = 41 by omega)]
        by_cases k2 : k = 2 * t
        · subst k2
          rw [g3, g4]
          refine ⟨fun u hu => ?_, ?_, ?_⟩
          · rw [rowf_b b (by omega), show 2 * t / 2 = t by omega, show 2 * t % 2 = 0 by omega, zu_nk (by omega), w5 _ (by omega)]
            by_cases eu : u = t
            · subst eu; rw [zu_at, if_pos rfl, if_pos rfl]
            · rw [zu_nk (by omega), if_neg eu]; exact g6 u (by omega)
          · unfold bnd; rw [if_pos (by omega), if_pos (by omega), show 2 * t / 2 = t by omega]
          · unfold rul; rw [if_pos (by omega)]
        · rw [(g2 k k2).1, (g2 k k2).2]
          obtain ⟨a1, a2, a3⟩ := hR.2 k (by omega)
          refine ⟨fun u hu => ?_, a2, a3⟩
          rw [zu_nk (by omega), w5 _ (by omega), zu_nk (by omega), g5 _ (by omega)]; exact a1 u hu
theorem lX5_rows117 {Z0 : Nat → Nat → Int} {r R : Nat} (hB : BR b) (hr : r < bM b) (hR : R < 14) (hK : ¬ bK b r = 2) (h31 : i32 (Z0 31 r) ∧ i32 (Z0 32 r)) : ∀ (n t : Nat) (Z : Nat → Nat → Int) (v3 : Value), t + n = bN b → MB Z b → fr (fun a => ¬ a = 41) Z0 Z → Z0 27 19 = ((R + 1 : Nat) : Int) → (∀ j, ¬ j / 4 = R → Z 41 j = Z0 41 j) → (∀ u, u < t → Z 41 (4 * R + u) = bF b r u) → (∀ Z' v2 v3, MB Z' b → fr (fun a => ¬ a = 41) Z0 Z' → (∀ j, ¬ j / 4 = R → Z' 41 j = Z0 41 j) → (∀ u, u < bN b → Z' 41 (4 * R + u) = bF b r u) → jj_Ex d mX5_rowsNow 201 [.ref 27, iv (r : Int), iv v2, v3] [] (jj_h Z' Y S) Q) → jj_Ex d mX5_rowsNow 117 [.ref 27, iv (r : Int), iv (t : Int), v3] [] (jj_h Z Y S) Q := by
  have h4 := hB.1
  have h6 := hB.2.1
  obtain ⟨a1, a2, a3, a4, a5, a6⟩ := hB.2.2.2.1 r hr
  intro n
  induction n with
  | zero =>
    intro t Z v3 ht hM f hn h1 h2 c
    have m1 := hM.1
    exact bX5_rowsNow_117 (by omega) (by omega) (fun _ => c Z _ _ hM f h1 (fun u hu => h2 u (by omega))) (fun z => by omega)
  | succ n ih =>
    intro t Z v3 ht hM f hn h1 h2 c
    have m1 := hM.1
    obtain ⟨g1, g2, g3, g4⟩ := hM.2.2.2.1 r hr
    have m5 := hM.2.2.2.2 r t (by omega) (by omega)
    have e2 : ((r : Int)).toNat = r := Int.toNat_natCast r
    have e19 : Z 27 19 = ((R + 1 : Nat) : Int) := (f 27 (by omega) 19).trans hn
    have e31 := f 31 (by omega) r
    have e32 := f 32 (by omega) r
    have es : (((4 * Z 27 19) - 4) + (t : Int)).toNat = 4 * R + t := by rw [e19]; omega
    have e4 : ((4 * (r : Int)) + (t : Int)).toNat = 4 * r + t := by omega
    have nx : ∀ v3, jj_Ex d mX5_rowsNow 117 [.ref 27, iv (r : Int), iv ((t : Int) + 1), v3] [] (jj_h (zu Z 41 (4 * R + t) (bF b r t)) Y S) Q := by
      intro v3
      have fz : fr (fun a => ¬ a = 41) Z (zu Z 41 (4 * R + t) (bF b r t)) := fun a ha j => by rw [zu_ne ha]
      refine ih (t + 1) _ v3 (by omega) (hM.fr (fz.mono (fun a ha => by unfold mbc at ha; omega)) (fz 27 (by omega) 0) (fz 27 (by omega) 3)) (f.trans fz) hn (fun j hj => ?_) (fun u hu => ?_) c
      · rw [zu_nk (by omega)]; exact h1 j hj
      · by_cases eu : u = t
        · subst eu; rw [zu_at]
        · rw [zu_nk (by omega)]; exact h2 u (by omega)
    have z0 : bK b r = 0 → ∀ x : Int, jj_Ex d mX5_rowsNow 180 [.ref 27, iv (r : Int), iv (t : Int), iv x] [iv (((4 * (Z 27 19)) - 4) + (t : Int)), .ref 41] (jj_h Z Y S) Q := by
      intro hk x
      refine bX5_rowsNow_180 (by omega) (by omega) (by rw [e19]; omega) (by rw [e19]; omega) ?_
      rw [es, e4, m5, if_pos ⟨hr, hk⟩]; exact nx _
    have z1 : ¬ bK b r = 0 → ∀ x : Int, x = (if bL b r = (t : Int) then 1 else 0) - (if bR b r = (t : Int) then 1 else 0) → jj_Ex d mX5_rowsNow 193 [.ref 27, iv (r : Int), iv (t : Int), iv x] [iv (((4 * (Z 27 19)) - 4) + (t : Int)), .ref 41] (jj_h Z Y S) Q := by
      intro hk x hx
      refine bX5_rowsNow_193 (by rw [e19]; omega) (by rw [e19]; omega) ?_
      rw [es, hx, ← hB.2.2.2.2.2.2.1 r t hr (by omega)]; exact nx _
    have gl : ¬ bK b r = 0 → Z 31 r = bL b r ∧ Z 32 r = bR b r := g4
    refine bX5_rowsNow_117 (by omega) (by omega) (fun z => by omega) (fun _ => bX5_rowsNow_125 (by omega) (by omega) (by rw [e2, e31]; exact h31.1) (by omega) (fun p1 => bX5_rowsNow_139 (by omega) (by omega) (by rw [e2, e32]; exact h31.2) (by omega) (fun p2 => bX5_rowsNow_154 (by omega) (by omega) (by rw [e2]; omega) (fun p3 => z1 ?_ _ ?_) (fun p3 => z0 ?_ _)) (fun p2 => bX5_rowsNow_150 (by omega) (by omega) (by rw [e2]; omega) (fun p3 => z1 ?_ _ ?_) (fun p3 => z0 ?_ _))) (fun p1 => bX5_rowsNow_135 (by omega) (by omega) (by rw [e2, e32]; exact h31.2) (by omega) (fun p2 => bX5_rowsNow_154 (by omega) (by omega) (by rw [e2]; omega) (fun p3 => z1 ?_ _ ?_) (fun p3 => z0 ?_ _)) (fun p2 => bX5_rowsNow_150 (by omega) (by omega) (by rw [e2]; omega) (fun p3 => z1 ?_ _ ?_) (fun p3 => z0 ?_ _))))
    all_goals rw [e2] at p1 p2 p3
    all_goals first
      | (rw [g1] at p3; exact p3)
      | (rw [g1] at p3
         rw [(gl p3).1] at p1
         rw [(gl p3).2] at p2
         simp [p1, p2])
theorem lX5_rows74 {Z0 : Nat → Nat → Int} (hB : BR b) (h31 : ∀ r, r < bM b → i32 (Z0 31 r) ∧ i32 (Z0 32 r)) : ∀ (n r : Nat) (Z : Nat → Nat → Int) (v2 v3 : Value), r + n = bM b → MB Z b → m19 Z0 Z → RS b Z (2 * bN b + fp (cf b) r) → (∀ Z', MB Z' b → m19 Z0 Z' → RS b Z' (rn b) → Q none (jj_h Z' Y S)) → jj_Ex (d + 1) mX5_rowsNow 74 [.ref 27, iv (r : Int), v2, v3] [] (jj_h Z Y S) Q := by
  have h4 := hB.1
  have h6 := hB.2.1
  intro n
  induction n with
  | zero =>
    intro r Z v2 v3 hr hM f hR c
    have m2 := hM.2.1
    refine bX5_rowsNow_74 (by omega) (by omega) (fun _ => bX5_rowsNow_207 (c Z hM f ?_)) (fun z => by omega)
    rw [show r = bM b by omega] at hR
    exact hR
  | succ n ih =>
    intro r Z v2 v3 hr hM f hR c
    have m2 := hM.2.1
    have e2 : ((r : Int)).toNat = r := Int.toNat_natCast r
    obtain ⟨g1, g2, g3, g4⟩ := hM.2.2.2.1 r (by omega)
    obtain ⟨a1, a2, a3, a4, a5, a6⟩ := hB.2.2.2.1 r (by omega)
    have hle := fp_le (cf b) r
    have skip : cf b r = false → ∀ v2 v3, jj_Ex (d + 1) mX5_rowsNow 74 [.ref 27, iv ((r : Int) + 1), v2, v3] [] (jj_h Z Y S) Q := fun hc v2 v3 => ih (r + 1) Z v2 v3 (by omega) hM f (by rw [fp_n hc]; exact hR) c
    refine bX5_rowsNow_74 (by omega) (by omega) (fun z => by omega) (fun _ => bX5_rowsNow_82 (by omega) (by omega) (by rw [e2]; omega) (fun p1 => bX5_rowsNow_201 (skip ?_ _ _)) (fun p1 => bX5_rowsNow_91 (by omega) (by omega) (by rw [e2]; omega) (fun p2 => bX5_rowsNow_104 (by omega) (by omega) ?_) (fun p2 => bX5_rowsNow_101 (skip ?_ _ _))))
    · rw [e2, g3] at p1; unfold cf; exact decide_eq_false (by omega)
    · rw [e2, g3] at p1
      rw [e2, g1] at p2
      have hc : cf b r = true := by unfold cf; exact decide_eq_true ⟨p1, p2⟩
      rw [e2, g2]
      refine kX5_addRow (R := 2 * bN b + fp (cf b) r) (by omega) hR.1 (fun Z1 f1 w1 w2 w3 w4 w5 w6 => bX5_rowsNow_115 ?_)
      have hM1 := mb_19 hM f1
      have i31 : i32 (Z1 31 r) ∧ i32 (Z1 32 r) := by
        rw [f1.1 31 (by unfold rwc; omega), f1.1 32 (by unfold rwc; omega), f.1 31 (by unfold rwc; omega), f.1 32 (by unfold rwc; omega)]; exact h31 r (by omega)
      refine lX5_rows117 (Z0 := Z1) (R := 2 * bN b + fp (cf b) r) hB (by omega) (by omega) p2 i31 (bN b) 0 Z1 _ (by omega) hM1 fr.rf w1 (fun _ _ => rfl) (fun u hu => by omega) (fun Z2 v2' v3' hM2 f2 q1 q2 => bX5_rowsNow_201 ?_)
      have fz : m19 Z Z2 := f1.trans ⟨f2.mono (fun a ha => by unfold rwc at ha; omega), fun j _ => f2 27 (by omega) j⟩
      refine ih (r + 1) Z2 _ _ (by omega) hM2 (f.trans fz) ⟨?_, fun k hk => ?_⟩ c
      · rw [f2 27 (by omega), w1, fp_y hc]; omega
      · rw [fp_y hc] at hk
        rw [f2 42 (by omega), f2 43 (by omega)]
        by_cases ek : k = 2 * bN b + fp (cf b) r
        · subst ek
          rw [w3, w4, bnd_r b (by omega) hc, rul_r b (by omega) hc]
          exact ⟨fun t ht => by rw [rowf_r b (by omega) hc]; exact q2 t ht, rfl, rfl⟩
        · rw [(w2 k ek).1, (w2 k ek).2]
          obtain ⟨b1, b2, b3⟩ := hR.2 k (by omega)
          refine ⟨fun t ht => ?_, b2, b3⟩
          rw [q1 _ (by omega), w5 _ (by omega)]; exact b1 t ht
    · rw [e2, g1] at p2; unfold cf; exact decide_eq_false (by omega)
theorem kX5_rowsNow {Z : Nat → Nat → Int} (hB : BR b) (hM : MB Z b) (h31 : ∀ r, r < bM b → i32 (Z 31 r) ∧ i32 (Z 32 r)) (k : ∀ Z', MB Z' b → m19 Z Z' → RS b Z' (rn b) → K (jj_h Z' Y S)) : jj_Cv (d + 1) mX5_rowsNow [.ref 27] (jj_h Z Y S) K := by
  have f0 : m19 Z (zu Z 27 19 0) := ⟨fun a ha j => by unfold rwc at ha; rw [zu_ne (by omega)], fun j hj => by rw [zu_nk hj]⟩
  refine nX5_rowsNow (bX5_rowsNow_0 (lX5_rows7 (Z0 := Z) hB (bN b) 0 _ (by omega) (mb_19 hM f0) f0 ⟨zu_at, fun k hk => by omega⟩ (fun Z1 hM1 f1 hR1 => bX5_rowsNow_72 (lX5_rows74 (Z0 := Z) hB h31 (bM b) 0 Z1 _ _ (by omega) hM1 f1 hR1 (fun Z2 hM2 f2 hR2 => ⟨rfl, k Z2 hM2 f2 hR2⟩)))))
end RW

/-! all corners of the class, kept or found anew -/
def cnq (p q : Nat) : Nat := fp (fun x => decide (bcn p = bcn x)) q
def szb : Nat → Nat
  | 0 => 0
  | p + 1 => szb p + cnq p 16
theorem szb_64 : szb 64 = 210 := by decide +kernel
theorem szb_mono : ∀ {a c : Nat}, a ≤ c → szb a ≤ szb c
  | a, 0, h => by rw [show a = 0 by omega]; exact Nat.le_refl _
  | a, c + 1, h => by
    by_cases e : a = c + 1
    · rw [e]; exact Nat.le_refl _
    · have := szb_mono (a := a) (c := c) (by omega)
      show szb a ≤ szb c + cnq c 16
      omega
theorem szb_lt {p q : Nat} (hp : p < 64) (hq : q < 16) (h : bcn p = bcn q) : szb p + cnq p q < 210 := by
  have h1 : cnq p q < cnq p 16 := fp_lt (decide_eq_true h) hq
  have h2 := szb_mono (show p + 1 ≤ 64 by omega)
  rw [szb_64] at h2
  have h3 : szb (p + 1) = szb p + cnq p 16 := rfl
  omega
theorem szb_le {p q : Nat} (hp : p < 64) (hq : q ≤ 16) : szb p + cnq p q ≤ 210 := by
  have h1 : cnq p q ≤ cnq p 16 := fp_mono _ hq
  have h2 := szb_mono (show p + 1 ≤ 64 by omega)
  rw [szb_64] at h2
  have h3 : szb (p + 1) = szb p + cnq p 16 := rfl
  omega
/-- those that are kept are corners, and those that were tried and are corners are kept -/
def CI (b : Bk) (n : Nat) (Y : Nat → Nat → Int) (Dn : Nat → Nat → Prop) : Prop := (∀ i, i < n → ∃ p q, p < 2 ^ bM b ∧ q < 2 ^ bN b ∧ VC b p q ∧ Pt b Y i p q) ∧ (∀ p q, Dn p q → p < 2 ^ bM b → q < 2 ^ bN b → VC b p q → ∃ i, i < n ∧ Pt b Y i p q)
def CN (b : Bk) (Z Y : Nat → Nat → Int) : Prop := ∃ n : Nat, Z 20 0 = (n : Int) ∧ n ≤ 210 ∧ CI b n Y (fun _ _ => True)
theorem Pt.keep {b : Bk} {Y Y' : Nat → Nat → Int} {n i p q : Nat} (h : Pt b Y i p q) (hi : i < n) (f : yco n Y Y') : Pt b Y' i p q := by
  obtain ⟨h1, h2, h3⟩ := h
  refine ⟨by rw [(f.2.1 i hi).1]; exact h1, by rw [(f.2.1 i hi).2]; exact h2, fun r hr => ?_⟩
  rw [f.2.2 _ (by omega)]; exact h3 r hr
theorem CI.keep {b : Bk} {Y Y' : Nat → Nat → Int} {n : Nat} {Dn : Nat → Nat → Prop} (h : CI b n Y Dn) (f : yco n Y Y') : CI b n Y' Dn := by
  refine ⟨fun i hi => ?_, fun p q hD hp hq hv => ?_⟩
  · obtain ⟨p, q, h1, h2, h3, h4⟩ := h.1 i hi
    exact ⟨p, q, h1, h2, h3, h4.keep hi f⟩
  · obtain ⟨i, h1, h2⟩ := h.2 p q hD hp hq hv
    exact ⟨i, h1, h2.keep h1 f⟩
theorem CN_f : CNf CN := by
  rintro b Z Z' Y Y' hz hy ⟨n, h1, h2, h3⟩
  exact ⟨n, by rw [hz]; exact h1, h2, by
    refine ⟨fun i hi => ?_, fun p q hD hp hq hv => ?_⟩
    · obtain ⟨p, q, a1, a2, a3, a4, a5, a6⟩ := h3.1 i hi
      exact ⟨p, q, a1, a2, a3, by rw [hy 21 (by omega) (by omega)]; exact a4, by rw [hy 22 (by omega) (by omega)]; exact a5, fun r hr => by rw [hy 23 (by omega) (by omega)]; exact a6 r hr⟩
    · obtain ⟨i, a1, a4, a5, a6⟩ := h3.2 p q hD hp hq hv
      exact ⟨i, a1, by rw [hy 21 (by omega) (by omega)]; exact a4, by rw [hy 22 (by omega) (by omega)]; exact a5, fun r hr => by rw [hy 23 (by omega) (by omega)]; exact a6 r hr⟩⟩
section CF
variable {d : Nat} {S : Nat × (Nat → Int32)} {Q : Option Value → jj_Hp → Prop} {K : jj_Hp → Prop} {Kr : Nat → jj_Hp → Prop} {b : Bk}
theorem lX1_find27 {Z0 Y0 : Nat → Nat → Int} {p : Nat} (hB : BR b) (hp : p < 2 ^ bM b) (hc : ∀ r, r < bM b → bt p r = true → cf b r = true) : ∀ (m q n : Nat) (Z Y : Nat → Nat → Int), q + m = 2 ^ bN b → XB Z b → fr (fun a => ¬ a = 20) Z0 Z → fr (fun a => ¬ (21 ≤ a ∧ a ≤ 25)) Y0 Y → Z 20 0 = (n : Int) → n ≤ szb p + cnq p q → CI b n Y (fun p' q' => p' < p ∨ (p' = p ∧ q' < q)) → (∀ Z' Y' (n' : Nat) v3, XB Z' b → fr (fun a => ¬ a = 20) Z0 Z' → fr (fun a => ¬ (21 ≤ a ∧ a ≤ 25)) Y0 Y' → Z' 20 0 = (n' : Int) → n' ≤ szb (p + 1) → CI b n' Y' (fun p' _ => p' < p + 1) → jj_Ex (d + 8) mX1_find 50 [.ref 20, .ref 1, iv (p : Int), v3] [] (jj_h Z' Y' S) Q) → jj_Ex (d + 8) mX1_find 27 [.ref 20, .ref 1, iv (p : Int), iv (q : Int)] [] (jj_h Z Y S) Q := by
  have h4 := hB.1
  have h6 := hB.2.1
  have p64 : p < 64 := Nat.lt_of_lt_of_le hp (Nat.pow_le_pow_right (by omega) h6)
  have q16 : 2 ^ bN b ≤ 2 ^ 4 := Nat.pow_le_pow_right (by omega) h4
  intro m
  induction m with
  | zero =>
    intro q n Z Y hq hX f g hn hle hI c
    have x1 := hX.1
    have e1 : (Z 1 0).toNat = bN b := by omega
    have h1 : cnq p q ≤ cnq p 16 := fp_mono _ (by omega)
    have h3 : szb (p + 1) = szb p + cnq p 16 := rfl
    refine bX1_find_27 (by omega) (by omega) (by omega) (by rw [e1]; generalize 2 ^ bN b = z at *; omega) (fun _ => c Z Y n _ hX f g hn (by omega) ⟨hI.1, fun p' q' hD hp' hq' hv => ?_⟩) (fun z => ?_)
    · refine hI.2 p' q' ?_ hp' hq' hv
      by_cases e : p' = p
      · exact Or.inr ⟨e, by omega⟩
      · exact Or.inl (by omega)
    · rw [e1] at z
      generalize 2 ^ bN b = y at *
      omega
  | succ m ih =>
    intro q n Z Y hq hX f g hn hle hI c
    have x1 := hX.1
    have e1 : (Z 1 0).toNat = bN b := by omega
    have hq2 : q < 2 ^ bN b := by omega
    have hb2 := szb_le (p := p) (q := q) p64 (by omega)
    refine bX1_find_27 (by omega) (by omega) (by omega) (by rw [e1]; generalize 2 ^ bN b = z at *; omega) (fun z => ?_) (fun _ => bX1_find_37 (kX1_tryCorner (n0 := n) hB hX hp hq2 hc hn (fun e => by have := szb_lt p64 (show q < 16 by omega) e; omega) (by omega) (fun Y1 f1 hv hbc hPt => bX1_find_44 ?_) (fun Y1 f1 hnv => bX1_find_44 ?_)))
    · rw [e1] at z
      generalize 2 ^ bN b = y at *
      omega
    · refine ih (q + 1) (n + 1) _ Y1 (by omega) (hX.fr (fun a ha j => by unfold xbc at ha; rw [zu_ne (by omega)])) (fun a ha j => by rw [zu_ne ha]; exact f a ha j) (g.trans f1.1) zu_at ?_ ⟨fun i hi => ?_, fun p' q' hD hp' hq' hv' => ?_⟩ c
      · have : cnq p (q + 1) = cnq p q + 1 := fp_y (decide_eq_true hbc)
        omega
      · by_cases e : i = n
        · subst e; exact ⟨p, q, hp, hq2, hv, hPt⟩
        · exact (hI.keep f1).1 i (by omega)
      · by_cases e : p' = p ∧ q' = q
        · obtain ⟨rfl, rfl⟩ := e
          exact ⟨n, by omega, hPt⟩
        · obtain ⟨i, a1, a2⟩ := (hI.keep f1).2 p' q' (by omega) hp' hq' hv'
          exact ⟨i, by omega, a2⟩
    · have hm : cnq p q ≤ cnq p (q + 1) := fp_mono _ (by omega)
      refine ih (q + 1) n Z Y1 (by omega) hX f (g.trans f1.1) hn (by omega) ⟨(hI.keep f1).1, fun p' q' hD hp' hq' hv' => ?_⟩ c
      by_cases e : p' = p ∧ q' = q
      · obtain ⟨rfl, rfl⟩ := e
        exact absurd hv' hnv
      · exact (hI.keep f1).2 p' q' (by omega) hp' hq' hv'
theorem lX1_find7 {Z0 Y0 : Nat → Nat → Int} (hB : BR b) (hQ : ∀ Z' Y' (n' : Nat), fr (fun a => ¬ a = 20) Z0 Z' → fr (fun a => ¬ (21 ≤ a ∧ a ≤ 25)) Y0 Y' → Z' 20 0 = ((n' : Nat) : Int) → n' ≤ 210 → CI b n' Y' (fun _ _ => True) → Q none (jj_h Z' Y' S)) : ∀ (m p n : Nat) (Z Y : Nat → Nat → Int) (v3 : Value), p + m = 2 ^ bM b → XB Z b → fr (fun a => ¬ a = 20) Z0 Z → fr (fun a => ¬ (21 ≤ a ∧ a ≤ 25)) Y0 Y → Z 20 0 = (n : Int) → n ≤ szb p → CI b n Y (fun p' _ => p' < p) → jj_Ex (d + 8) mX1_find 7 [.ref 20, .ref 1, iv (p : Int), v3] [] (jj_h Z Y S) Q := by
  have h4 := hB.1
  have h6 := hB.2.1
  have p64 : 2 ^ bM b ≤ 2 ^ 6 := Nat.pow_le_pow_right (by omega) h6
  intro m
  induction m with
  | zero =>
    intro p n Z Y v3 hp hX f g hn hle hI
    have x2 := hX.2.1
    have e1 : (Z 1 1).toNat = bM b := by omega
    have := szb_mono (show p ≤ 64 by omega)
    rw [szb_64] at this
    refine bX1_find_7 (by omega) (by omega) (by omega) (by rw [e1]; generalize 2 ^ bM b = z at *; omega) (fun _ => bX1_find_56 (hQ Z Y n f g hn (by omega) ⟨hI.1, fun p' q' _ hp' hq' hv => hI.2 p' q' (by omega) hp' hq' hv⟩)) (fun z => ?_)
    rw [e1] at z
    generalize 2 ^ bM b = y at *
    omega
  | succ m ih =>
    intro p n Z Y v3 hp hX f g hn hle hI
    have x2 := hX.2.1
    have e1 : (Z 1 1).toNat = bM b := by omega
    have hp2 : p < 2 ^ bM b := by omega
    refine bX1_find_7 (by omega) (by omega) (by omega) (by rw [e1]; generalize 2 ^ bM b = z at *; omega) (fun z => ?_) (fun _ => bX1_find_17 (jj_Ci.deep (d := d + 1) (by omega) (kX1_allCount hB hX (by omega) (fun hc => bX1_find_22 (by omega) (fun z => by omega) (fun _ => bX1_find_25 ?_)) (fun hnc => bX1_find_22 (by omega) (fun _ => bX1_find_50 ?_) (fun z => absurd rfl z)))))
    · rw [e1] at z
      generalize 2 ^ bM b = y at *
      omega
    · refine lX1_find27 (Z0 := Z0) (Y0 := Y0) hB hp2 hc (2 ^ bN b) 0 n Z Y (by omega) hX f g hn (by omega) ⟨hI.1, fun p' q' hD hp' hq' hv => hI.2 p' q' (by omega) hp' hq' hv⟩ (fun Z' Y' n' v3' hX' f' g' hn' hle' hI' => bX1_find_50 (ih (p + 1) n' Z' Y' _ (by omega) hX' f' g' hn' hle' hI'))
    · obtain ⟨r, hr, hb, hcf⟩ := hnc
      have h3 : szb (p + 1) = szb p + cnq p 16 := rfl
      refine ih (p + 1) n Z Y _ (by omega) hX f g hn (by omega) ⟨hI.1, fun p' q' hD hp' hq' hv => ?_⟩
      by_cases e : p' = p
      · subst e
        have := hv.1 r hr hb
        rw [hcf] at this; exact absurd this Bool.false_ne_true
      · exact hI.2 p' q' (by omega) hp' hq' hv
theorem kX1_find {Z Y : Nat → Nat → Int} (hB : BR b) (hX : XB Z b) (k : ∀ Z' Y', fr (fun a => ¬ a = 20) Z Z' → fr (fun a => ¬ (21 ≤ a ∧ a ≤ 25)) Y Y' → CN b Z' Y' → K (jj_h Z' Y' S)) : jj_Cv (d + 8) mX1_find [.ref 20, .ref 1] (jj_h Z Y S) K :=
  nX1_find (bX1_find_0 (lX1_find7 (Z0 := Z) (Y0 := Y) hB (fun Z' Y' n' f g hn hle hI => ⟨rfl, k Z' Y' f g ⟨n', hn, hle, hI⟩⟩) (2 ^ bM b) 0 0 _ Y _ (by omega) (hX.fr (fun a ha j => by unfold xbc at ha; rw [zu_ne (by omega)])) (fun a ha j => by rw [zu_ne ha]) fr.rf zu_at (by omega) ⟨fun i hi => by omega, fun p' q' hD => by omega⟩))
theorem kX4_freshCorners {Z Y : Nat → Nat → Int} (h : Inv SV CN b Z Y) (k : ∀ Z' Y', Inv SV CN b Z' Y' → CN b Z' Y' → Kr 20 (jj_h Z' Y' S)) : jj_Cr (d + 9) mX4_freshCorners [.ref 0] (jj_h Z Y S) Kr := by
  obtain ⟨hB, hX, hM, hP, hs, hc⟩ := id h
  refine nX4_freshCorners (bX4_freshCorners_0 (by omega) (fun h5 => bX4_freshCorners_23 ⟨_, rfl, ?_⟩) (fun h5 => bX4_freshCorners_7 (kX1_find hB hX (fun Z' Y' f g hC => bX4_freshCorners_18 ⟨_, rfl, ?_⟩))))
  · rcases hc with hc | hc
    · omega
    · exact k Z Y h hc.2
  · have f' : ∀ a j, ¬ (a = 0 ∧ j = 6) → ¬ a = 20 → zu Z' 0 6 1 a j = Z a j := fun a j h1 h2 => by rw [show zu Z' 0 6 1 a j = Z' a j from if_neg h1, f a h2]
    have hC' : CN b (zu Z' 0 6 1) Y' := CN_f b Z' _ Y' Y' (fun j => zu_ne (by omega)) (fun _ _ _ _ => rfl) hC
    refine k _ Y' ⟨hB, hX.fr (fun a ha j => by unfold xbc at ha; exact f' a j (by omega) (by omega)), hM.fr (fun a ha j => by unfold mbc at ha; exact f' a j (by omega) (by omega)) (f' 27 0 (by omega) (by omega)) (f' 27 3 (by omega) (by omega)), fun t ht => ?_, ?_, Or.inr ⟨zu_at, hC'⟩⟩ hC'
    · rw [f' 26 t (by omega) (by omega), f' 36 t (by omega) (by omega)]; exact hP t ht
    · rw [f' 0 5 (by omega) (by omega)]
      rcases hs with hs | ⟨h1, h2⟩
      · exact Or.inl hs
      · exact Or.inr ⟨h1, h2.keep (fun a ha j => f' a j (by omega) (by omega))⟩
end CF

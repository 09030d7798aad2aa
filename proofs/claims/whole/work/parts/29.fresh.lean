/-! the survey, kept or made anew; what stays between two calls -/
def sv0 (f g : Nat → Int) : SvT := (-1000000, 0, 0, f, g, (fun _ _ => -1000000), (fun _ => -1000000))
def svN (b : Bk) : Int := sz (fun _ => 0) (bT b) (bN b)
def svF (b : Bk) (f g : Nat → Int) : SvT := fdl (fun _ => 0) (bT b) (bN b) (lkS b (lim0 b)) (svN b).toNat (fun _ => 0) (sv0 f g)
def SV (b : Bk) (Z : Nat → Nat → Int) : Prop := ∃ f g, SK b Z (svF b f g) ∧ SR b (svF b f g) ∧ Z 15 1 = svN b
theorem SV.keep {b : Bk} {Z Z' : Nat → Nat → Int} (h : SV b Z) (f : fr (fun a => 15 ≤ a ∧ a ≤ 19) Z Z') : SV b Z' := by
  obtain ⟨u, v, ⟨h1, h2, h3, h4, h5, h6, h7⟩, hR, h8⟩ := h
  refine ⟨u, v, ⟨by rw [f 15 (by omega)]; exact h1, by rw [f 15 (by omega)]; exact h2, by rw [f 15 (by omega)]; exact h3, by rw [f 15 (by omega)]; exact h4, fun t ht => ?_, fun t c ht hc => ?_, fun r hr => ?_⟩, hR, by rw [f 15 (by omega)]; exact h8⟩
  · rw [f 16 (by omega), f 17 (by omega)]; exact h5 t ht
  · rw [f 18 (by omega)]; exact h6 t c ht hc
  · rw [f 19 (by omega)]; exact h7 r hr
/-- the corners that are kept don't hang on what else is written -/
def CNf (CN : Bk → (Nat → Nat → Int) → (Nat → Nat → Int) → Prop) : Prop := ∀ b Z Z' Y Y', (∀ k, Z' 20 k = Z 20 k) → (∀ a, 21 ≤ a → a ≤ 23 → ∀ k, Y' a k = Y a k) → CN b Z Y → CN b Z' Y'
def kpc (a : Nat) : Prop := a ≤ 9 ∨ (15 ≤ a ∧ a ≤ 20) ∨ a = 26 ∨ (28 ≤ a ∧ a ≤ 36)
theorem Inv.keep {CN : Bk → (Nat → Nat → Int) → (Nat → Nat → Int) → Prop} {b : Bk} {Z Y Z' Y' : Nat → Nat → Int} (h : Inv SV CN b Z Y) (hC : CNf CN) (f : fr kpc Z Z') (f0 : Z' 27 0 = Z 27 0) (f3 : Z' 27 3 = Z 27 3) (g : ∀ a, 21 ≤ a → a ≤ 23 → ∀ k, Y' a k = Y a k) : Inv SV CN b Z' Y' := by
  obtain ⟨hB, hX, hM, hP, hs, hc⟩ := h
  refine ⟨hB, hX.fr (f.mono (fun a ha => by unfold xbc at ha; unfold kpc; omega)), hM.fr (f.mono (fun a ha => by unfold mbc at ha; unfold kpc; omega)) f0 f3, fun t ht => ?_, ?_, ?_⟩
  · rw [f 26 (by unfold kpc; omega), f 36 (by unfold kpc; omega)]; exact hP t ht
  · rw [f 0 (by unfold kpc; omega)]
    rcases hs with hs | ⟨h1, h2⟩
    · exact Or.inl hs
    · exact Or.inr ⟨h1, h2.keep (f.mono (fun a ha => by unfold kpc; omega))⟩
  · rw [f 0 (by unfold kpc; omega)]
    rcases hc with hc | ⟨h1, h2⟩
    · exact Or.inl hc
    · exact Or.inr ⟨h1, hC b Z Z' Y Y' (fun k => f 20 (by unfold kpc; omega) k) g h2⟩
theorem fit0 {b : Bk} {lim : Nat → Int} (hl : ∀ r, r < bM b → 0 ≤ lim r) : fit b lim (fun _ => 0) := by
  intro r hr
  have := hl r hr
  unfold ldp
  split
  · show min (0 : Int) 0 ≤ _; omega
  · rw [sf_congr (g := fun _ => 0) _ _ (fun i _ _ => Int.zero_mul _), sf_zero]; exact this
theorem vlp0 (b : Bk) : vlp b (fun _ => 0) = 0 := by
  unfold vlp
  rw [sf_congr (g := fun _ => 0) _ _ (fun i _ _ => Int.zero_mul _), sf_zero]
/-- a greatest VALUE over all plans of a box that fit is not below 0 -/
theorem mx_ge0 {b : Bk} {lim hi : Nat → Int} {M : Int} (hB : BR b) (h9 : bd (bN b) hi) (hl : ∀ r, r < bM b → 0 ≤ lim r) (h : mxq (fun q => bx (fun _ => 0) hi (bN b) q ∧ fit b lim q) (vlp b) M) : 0 ≤ M ∧ M ≤ 4000 := by
  have h0 : bx (fun _ => 0) hi (bN b) (fun _ => 0) ∧ fit b lim (fun _ => 0) := ⟨fun t ht => ⟨Int.le_refl _, (h9 t ht).1⟩, fit0 hl⟩
  rcases h with ⟨h1, h2⟩ | ⟨⟨q, h1, h2⟩, h3⟩
  · exact absurd h0 (h2 _)
  · have a := h3 _ h0
    rw [vlp0] at a
    have := vl_bound hB (bx_bd (fun _ _ => Int.le_refl _) (fun t ht => (h9 t ht).2) h1.1)
    omega
theorem svP {b : Bk} (hB : BR b) (f g : Nat → Int) : SvP b (lim0 b) (bT b) (svF b f g) := mS hB (bd_T hB) rfl (fun _ _ => rfl) (fun _ => rfl)
theorem svG {b : Bk} (hB : BR b) (f g : Nat → Int) : 0 ≤ (svF b f g).1 ∧ (svF b f g).1 ≤ 4000 := mx_ge0 hB (bd_T hB) (fun r hr => (i_lim hB hr).1) (svP hB f g).1
section FR
variable {d : Nat} {Z Y : Nat → Nat → Int} {S : Nat × (Nat → Int32)} {K : jj_Hp → Prop} {Ki : Int → jj_Hp → Prop} {Kr : Nat → jj_Hp → Prop} {Q : Option Value → jj_Hp → Prop} {b : Bk} {lim ms p : Nat → Int}
theorem kX3_greatestFitting (hB : BR b) (hm : bd (bN b) ms) (hl : ∀ r, r < bM b → i32 (lim r)) (hW : WK b Z lim ms (fun _ => 0)) (k : ∀ Z', fr wkc Z Z' → Ki (fdl (fun _ => 0) ms (bN b) (gfS b lim) (sz (fun _ => 0) ms (bN b)).toNat (fun _ => 0) 0) (jj_h Z' Y S)) : jj_Ci (d + 3) mX3_greatestFitting [.ref 10] (jj_h Z Y S) Ki := by
  have h4 := hB.1
  obtain ⟨N, e1, e2, e3⟩ := pr_in hm (bN b) 0 1 (by omega)
  have e4 : pr ms 0 (bN b) 1 = sz (fun _ => 0) ms (bN b) := by
    have := pr_sz ms (bN b) 0
    rw [Nat.zero_add] at this; exact this
  have e5 : 10 ^ bN b ≤ 10 ^ 4 := Nat.pow_le_pow_right (by omega) h4
  have e6 : (sz (fun _ => 0) ms (bN b)).toNat = N := by rw [← e4]; exact (congrArg Int.toNat e1).trans (Int.toNat_natCast N)
  refine nX3_greatestFitting (bX3_greatestFitting_0 (kX3_plans hB hW (bX3_greatestFitting_6 ?_)))
  rw [show pr ms 0 (bN b) 1 = (N : Int) from e1]
  refine lX3_greatestFitting hB hm hl N Z (fun _ => 0) 0 (by omega) (by omega) bd_0 hW (fun Z' x f hx => ⟨_, rfl, ?_⟩)
  rw [hx, gf_fdl, ← e6]; exact k Z' f
theorem kX2_lookAtAll (hB : BR b) (hX : XB Z b) (k : ∀ Z', fr swc Z Z' → SV b Z' → K (jj_h Z' Y S)) : jj_Cv (d + 4) mX2_lookAtAll [.ref 15, .ref 10, iv ((bN b : Nat) : Int)] (jj_h Z Y S) K := by
  have h4 := hB.1
  have hm := bd_T hB
  obtain ⟨N, e1, e2, e3⟩ := pr_in hm (bN b) 0 1 (by omega)
  have e4 : pr (bT b) 0 (bN b) 1 = svN b := by
    have := pr_sz (bT b) (bN b) 0
    rw [Nat.zero_add] at this; exact this
  have e5 : 10 ^ bN b ≤ 10 ^ 4 := Nat.pow_le_pow_right (by omega) h4
  have e6 : (svN b).toNat = N := by rw [← e4]; exact (congrArg Int.toNat e1).trans (Int.toNat_natCast N)
  have eN : svN b = (N : Int) := by rw [← e4]; exact e1
  refine nX2_lookAtAll (bX2_lookAtAll_0 (kJ7_fill (by decide) (fun Z1 f1 h1 => bX2_lookAtAll_30 (kJ7_fill (by decide) (fun Z2 f2 h2 => bX2_lookAtAll_39 (kX3_begin hB ?_ (fun Z3 f3 hW => bX2_lookAtAll_43 (kX3_plans hB hW (bX2_lookAtAll_48 ?_)))))))))
  · have fx : fr xbc Z Z2 := fun a ha j => by
      unfold xbc at ha
      rw [f2 a (by omega), f1 a (by omega), zu_ne (by omega), zu_ne (by omega), zu_ne (by omega), zu_ne (by omega)]
    exact hX.fr fx
  · rw [e4, eN]
    have fz : fr swc Z Z3 := fun a ha j => by
      unfold swc at ha
      rw [f3 a (by unfold wkc; omega), f2 a (by omega), f1 a (by omega), zu_ne (by omega), zu_ne (by omega), zu_ne (by omega), zu_ne (by omega)]
    have g15 : ∀ j, Z3 15 j = zu (zu (zu (zu Z 15 0 ((bN b : Nat) : Int)) 15 2 0) 15 3 0) 15 4 (-1000000) 15 j := fun j => by rw [f3 15 (by unfold wkc; omega), f2 15 (by omega), f1 15 (by omega)]
    refine lX2_lookAtAll (lim := lim0 b) (ms := bT b) (N := N) hB hm (fun r hr => by have := i_lim hB hr; omega) (by omega) N 0 _ (fun _ => 0) (sv0 (Z3 16) (Z3 17)) (by omega) zu_at bd_0 (hW.fr (fun a ha j => by unfold svc at ha; rw [zu_ne (by omega)])) ⟨?_, ?_, ?_, ?_, fun t ht => ⟨?_, ?_⟩, fun t c ht hc => ?_, fun r hr => ?_⟩ ⟨Or.inl rfl, fun t c _ _ => ⟨Int.le_refl _, by show (-1000000 : Int) ≤ 4000; omega⟩, fun r _ => ⟨Int.le_refl _, by show (-1000000 : Int) ≤ 4000; omega⟩, fun t _ => Or.inl rfl⟩ (fun Z' p' f h15 hW' hS hR => ⟨rfl, k Z' ?_ ⟨Z3 16, Z3 17, ?_, ?_, ?_⟩⟩)
    · rw [zu_nk (by omega), g15, zu_nk (by omega), zu_nk (by omega), zu_nk (by omega), zu_at]
    · rw [zu_nk (by omega), g15, zu_at]; rfl
    · rw [zu_nk (by omega), g15, zu_nk (by omega), zu_at]; rfl
    · rw [zu_nk (by omega), g15, zu_nk (by omega), zu_nk (by omega), zu_at]; rfl
    · rw [zu_ne (by omega)]; rfl
    · rw [zu_ne (by omega)]; rfl
    · rw [zu_ne (by omega), f3 18 (by unfold wkc; omega), f2 18 (by omega)]
      have i18 : jj_il 18 = 40 := rfl
      exact h1 (t * 10 + c) (by omega)
    · rw [zu_ne (by omega), f3 19 (by unfold wkc; omega)]
      have i19 : jj_il 19 = 6 := rfl
      have := hB.2.1
      exact h2 r (by omega)
    · exact fun a ha j => by
        rw [f a ha j]
        have ha' := ha
        unfold swc at ha'
        rw [zu_ne (by omega)]; exact fz a ha j
    · rw [laS_fdl, ← e6] at hS; exact hS
    · rw [laS_fdl, ← e6] at hR; exact hR
    · rw [h15, eN]
/-- all but the walk and the survey -/
def fsc (a : Nat) : Prop := ¬ (a = 0 ∨ (10 ≤ a ∧ a ≤ 19))
theorem kX4_freshSurvey {CN : Bk → (Nat → Nat → Int) → (Nat → Nat → Int) → Prop} (hC : CNf CN) (h : Inv SV CN b Z Y) (k : ∀ Z', Inv SV CN b Z' Y → SV b Z' → fr fsc Z Z' → Z' 0 6 = Z 0 6 → Kr 15 (jj_h Z' Y S)) : jj_Cr (d + 5) mX4_freshSurvey [.ref 0] (jj_h Z Y S) Kr := by
  obtain ⟨hB, hX, hM, hP, hs, hc⟩ := id h
  refine nX4_freshSurvey (bX4_freshSurvey_0 (by omega) (fun h5 => bX4_freshSurvey_30 ⟨_, rfl, ?_⟩) (fun h5 => bX4_freshSurvey_7 ?_))
  · rcases hs with hs | hs
    · omega
    · exact k Z h hs.2 fr.rf rfl
  · rw [hX.1]
    refine kX2_lookAtAll hB hX (fun Z' f hS => bX4_freshSurvey_25 ⟨_, rfl, ?_⟩)
    have f' : fr fsc Z (zu Z' 0 5 1) := fun a ha j => by
      unfold fsc at ha
      rw [zu_ne (by omega), f a (by unfold swc; omega)]
    have e6 : zu Z' 0 5 1 0 6 = Z 0 6 := by rw [zu_nk (by omega), f 0 (by unfold swc; omega)]
    have hS' : SV b (zu Z' 0 5 1) := hS.keep (fun a ha j => by rw [zu_ne (by omega)])
    refine k _ ⟨hB, hX.fr (f'.mono (fun a ha => by unfold xbc at ha; unfold fsc; omega)), hM.fr (f'.mono (fun a ha => by unfold mbc at ha; unfold fsc; omega)) (f' 27 (by unfold fsc; omega) 0) (f' 27 (by unfold fsc; omega) 3), fun t ht => ?_, Or.inr ⟨zu_at, hS'⟩, ?_⟩ hS' f' e6
    · rw [f' 26 (by unfold fsc; omega), f' 36 (by unfold fsc; omega)]; exact hP t ht
    · rw [e6]
      rcases hc with hc | ⟨h1, h2⟩
      · exact Or.inl hc
      · exact Or.inr ⟨h1, hC b Z _ Y Y (fun k => f' 20 (by unfold fsc; omega) k) (fun _ _ _ _ => rfl) h2⟩
end FR

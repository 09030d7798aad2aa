/-! the survey: the whole walk -/
section SW
variable {d : Nat} {Z Y : Nat → Nat → Int} {S : Nat × (Nat → Int32)} {K : jj_Hp → Prop} {Ki : Int → jj_Hp → Prop} {Q : Option Value → jj_Hp → Prop} {b : Bk} {lim ms p : Nat → Int} {s : SvT}
theorem lX2_noteFitting {v : Int} {w4 : Value} (hB : BR b) (hn : Z 15 0 = (bN b : Nat)) (hp : bd (bN b) p) (hW : WK b Z lim ms p) (hv : -4000 ≤ v ∧ v ≤ 4000) (wc : Nat → Nat → Int) (hwr : ∀ t c, t < bN b → c < 10 → -1000000 ≤ wc t c ∧ wc t c ≤ 4000) : ∀ (n k : Nat) (Z' : Nat → Nat → Int) (w4 : Value), k + n = bN b → fr (fun q => ¬ q = 18) Z Z' → (∀ t c, t < bN b → c < 10 → Z' 18 (t * 10 + c) = if t < k ∧ (c : Int) = p t then max (wc t c) v else wc t c) → (∀ Z'' w5, fr (fun q => ¬ q = 18) Z Z'' → (∀ t c, t < bN b → c < 10 → Z'' 18 (t * 10 + c) = if (c : Int) = p t then max (wc t c) v else wc t c) → jj_Ex (d + 1) mX2_noteFitting 54 [.ref 15, .ref 14, iv v, iv ((bN b : Nat) : Int), w5] [] (jj_h Z'' Y S) Q) → jj_Ex (d + 1) mX2_noteFitting 12 [.ref 15, .ref 14, iv v, iv (k : Int), w4] [] (jj_h Z' Y S) Q := by
  have h4 := hB.1
  intro n
  induction n with
  | zero =>
    intro k Z' w4 hk hf hw hQ
    have e15 : Z' 15 0 = (bN b : Nat) := (hf 15 (by omega) 0).trans hn
    refine bX2_noteFitting_12 (by omega) (by omega) (fun h => ?_) (fun h => by omega)
    have := hQ Z' w4 hf (fun t c ht hc => by
      rw [hw t c ht hc]
      by_cases e : (c : Int) = p t
      · rw [if_pos ⟨by omega, e⟩, if_pos e]
      · rw [if_neg (by rintro ⟨-, z⟩; exact e z), if_neg e])
    rw [show bN b = k by omega] at this
    exact this
  | succ n ih =>
    intro k Z' w4 hk hf hw hQ
    have e15 : Z' 15 0 = (bN b : Nat) := (hf 15 (by omega) 0).trans hn
    have e2 : ((k : Int)).toNat = k := by omega
    have hpk := hp k (by omega)
    obtain ⟨c, hc⟩ := Int.eq_ofNat_of_zero_le hpk.1
    have e14 : Z' 14 k = (c : Int) := by rw [hf 14 (by omega), (hW.2.1 k (by omega)).2, hc]
    have e3 : ((k : Int) * 10 + (c : Int)).toNat = k * 10 + c := by omega
    have hc9 : c < 10 := by omega
    have hwk := hw k c (by omega) hc9
    rw [if_neg (by omega)] at hwk
    have hwb := hwr k c (by omega) hc9
    refine bX2_noteFitting_12 (by omega) (by omega) (fun h => by omega) (fun h => bX2_noteFitting_20 (by omega) (by omega) (by rw [e2, e14]; omega) (by rw [e2, e14]; omega) ?_)
    rw [e2, e14, e3, hwk]
    refine kJ9_max_7cf53 (by omega) (by omega) (bX2_noteFitting_47 (by omega) (by omega) ?_)
    rw [e3]
    refine ih (k + 1) _ _ (by omega) (fun q hq j => by rw [zu_ne hq]; exact hf q hq j) (fun t c' ht hc' => ?_) hQ
    by_cases e : t * 10 + c' = k * 10 + c
    · have et : t = k := by omega
      have ec : c' = c := by omega
      subst et; subst ec
      rw [zu_at, if_pos ⟨by omega, hc.symm⟩]
    · rw [zu_nk e, hw t c' ht hc']
      by_cases e5 : t < k ∧ (c' : Int) = p t
      · rw [if_pos e5, if_pos ⟨by omega, e5.2⟩]
      · rw [if_neg e5, if_neg ?_]
        rintro ⟨z1, z2⟩
        by_cases e6 : t = k
        · subst e6; rw [hc] at z2; omega
        · exact e5 ⟨by omega, z2⟩
theorem kX2_noteFitting {v : Int} (hB : BR b) (hp : bd (bN b) p) (hv : -4000 ≤ v ∧ v ≤ 4000) (hW : WK b Z lim ms p) (hS : SK b Z s) (hR : SR b s) (k : ∀ Z', fr svc Z Z' → Z' 15 1 = Z 15 1 → SK b Z' (nfS s p v) → K (jj_h Z' Y S)) : jj_Cv (d + 1) mX2_noteFitting [.ref 15, .ref 14, iv v] (jj_h Z Y S) K := by
  obtain ⟨h1, h2, h3, h4, h5, h6, h7⟩ := id hS
  refine nX2_noteFitting (bX2_noteFitting_0 (lX2_noteFitting (w4 := .null) (Z := zu Z 15 2 (Z 15 2 + 1)) (p := p) (lim := lim) (ms := ms) hB (by rw [zu_nk (by omega)]; exact h1) hp (hW.fr (fun a ha j => by unfold svc at ha; rw [zu_ne (by omega)])) hv s.2.2.2.2.2.1 hR.2.1 (bN b) 0 _ .null (by omega) fr.rf (fun t c ht hc => by rw [zu_ne (by omega), if_neg (by omega)]; exact h6 t c ht hc) (fun Z' w5 f h => ?_)))
  have f1 : fr svc Z Z' := fun a ha j => by
    unfold svc at ha
    rw [f a (by omega), zu_ne (by omega)]
  have hW' : WK b Z' lim ms p := hW.fr f1
  have e1 : Z' 15 1 = Z 15 1 := by rw [f 15 (by omega), zu_nk (by omega)]
  have e4 : Z' 15 4 = s.1 := by rw [f 15 (by omega), zu_nk (by omega)]; exact h2
  have hS' : SK b Z' (nwS s p v) := by
    refine ⟨?_, e4, ?_, ?_, fun t ht => ?_, fun t c ht hc => h t c ht hc, fun r hr => ?_⟩
    · rw [f 15 (by omega), zu_nk (by omega)]; exact h1
    · rw [f 15 (by omega), zu_nk (by omega)]; exact h3
    · rw [f 15 (by omega), zu_at, h4]; rfl
    · rw [f 16 (by omega), f 17 (by omega), zu_ne (by omega), zu_ne (by omega)]; exact h5 t ht
    · rw [f 19 (by omega), zu_ne (by omega)]; exact h7 r hr
  have hg : -1000000 ≤ s.1 ∧ s.1 ≤ 4000 := by
    rcases hR.1 with h | h <;> omega
  refine bX2_noteFitting_54 (by omega) (by rw [e4]; omega) (fun h => ?_) (fun h => bX2_noteFitting_62 (kX2_noteBetter hB hW' hS' (fun Z'' f2 g2 hS'' => bX2_noteFitting_68 ⟨rfl, k Z'' (f1.trans f2) (g2.trans e1) ?_⟩)))
  · rw [e4] at h
    refine bX2_noteFitting_71 (by omega) (by rw [e4]; omega) (fun h9 => bX2_noteFitting_84 ⟨rfl, k Z' f1 e1 ?_⟩) (fun h9 => bX2_noteFitting_79 ?_)
    · rw [e4] at h9
      unfold nfS
      rw [if_neg (by omega), if_neg h9]; exact hS'
    · rw [e4] at h9
      refine kX2_noteEqual hB hp ?_ hW' hS' (fun Z'' f2 g2 hS'' => bX2_noteFitting_84 ⟨rfl, k Z'' (f1.trans f2) (g2.trans e1) ?_⟩)
      · rcases hR.1 with h8 | h8
        · omega
        · exact h8.2.2
      · unfold nfS
        rw [if_neg (by omega), if_pos h9]; exact hS''
  · rw [e4] at h
    unfold nfS
    rw [if_pos (by omega)]; exact hS''
theorem kX2_lookAt (hB : BR b) (hp : bd (bN b) p) (hl : ∀ r, r < bM b → i32 (lim r)) (hW : WK b Z lim ms p) (hS : SK b Z s) (hR : SR b s) (k : ∀ Z', fr svc Z Z' → Z' 15 1 = Z 15 1 → SK b Z' (lkS b lim p s) → K (jj_h Z' Y S)) : jj_Cv (d + 3) mX2_lookAt [.ref 15, .ref 10] (jj_h Z Y S) K := by
  have hv := vl_bound hB hp
  have hz : Z 10 5 = vlp b p := hW.2.2.2
  have h6 := hB.2.1
  have hfo := fo_in b lim p (bM b - 0) 0
  refine nX2_lookAt (bX2_lookAt_0 (kX3_firstOver (f := 0) hB hp hl (by omega) hW (bX2_lookAt_5 (by omega) (fun h => ?_) (fun h => ?_))))
  · rw [Nat.sub_zero] at h hfo ⊢
    obtain ⟨r, hr⟩ := Int.eq_ofNat_of_zero_le (show 0 ≤ fo b lim p 0 (bM b) by omega)
    have hrm : r < bM b := by omega
    have hfo2 := fo_in b lim p (bM b - (r + 1)) (r + 1)
    rw [hr]
    refine bX2_lookAt_27 ?_
    rw [show (r : Int) + 1 = ((r + 1 : Nat) : Int) from rfl]
    refine kX3_firstOver hB hp hl (by omega) hW (bX2_lookAt_34 (by omega) (fun h2 => bX2_lookAt_58 ⟨rfl, k Z fr.rf rfl ?_⟩) (fun h2 => bX2_lookAt_39 (by omega) (by omega) ?_))
    · unfold lkS
      rw [hr, Int.toNat_natCast, if_neg (by omega), if_neg h2]; exact hS
    · have e2 : ((r : Int)).toNat = r := by omega
      have h19 := hS.2.2.2.2.2.2 r hrm
      have hb19 := hR.2.2.1 r hrm
      rw [e2, h19, hz]
      refine kJ9_max_7cf53 (by omega) (by omega) (bX2_lookAt_57 (by omega) (by omega) ⟨rfl, ?_⟩)
      rw [e2]
      obtain ⟨g1, g2, g3, g4, g5, g6, g7⟩ := hS
      refine k _ (fun a ha j => by unfold svc at ha; rw [zu_ne (by omega)]) (by rw [zu_ne (by omega)]) ?_
      unfold lkS
      rw [hr, Int.toNat_natCast, if_neg (by omega), if_pos h2]
      refine ⟨?_, ?_, ?_, ?_, fun t ht => ?_, fun t c ht hc => ?_, fun q hq => ?_⟩
      · rw [zu_ne (by omega)]; exact g1
      · rw [zu_ne (by omega)]; exact g2
      · rw [zu_ne (by omega)]; exact g3
      · rw [zu_ne (by omega)]; exact g4
      · rw [zu_ne (by omega), zu_ne (by omega)]; exact g5 t ht
      · rw [zu_ne (by omega)]; exact g6 t c ht hc
      · show zu Z 19 r (max (s.2.2.2.2.2.2 r) (vlp b p)) 19 q = if q = r then max (s.2.2.2.2.2.2 q) (vlp b p) else s.2.2.2.2.2.2 q
        by_cases e : q = r
        · subst e; rw [zu_at, if_pos rfl]
        · rw [zu_nk e, if_neg e]; exact g7 q hq
  · rw [Nat.sub_zero] at h
    refine bX2_lookAt_12 ?_
    rw [hz]
    refine kX2_noteFitting hB hp hv hW hS hR (fun Z' f g hS' => bX2_lookAt_24 ⟨rfl, k Z' f g ?_⟩)
    unfold lkS
    rw [if_pos h]; exact hS'
theorem lX2_lookAtAll (hB : BR b) (hm : bd (bN b) ms) (hl : ∀ r, r < bM b → i32 (lim r)) {N : Nat} (hN : N ≤ 100000) {a2 : Int} : ∀ (n k : Nat) (Z : Nat → Nat → Int) (p : Nat → Int) (s : SvT), k + n = N → Z 15 1 = (N : Int) → bd (bN b) p → WK b Z lim ms p → SK b Z s → SR b s → (∀ Z' p', fr swc Z Z' → Z' 15 1 = (N : Int) → WK b Z' lim ms p' → SK b Z' (laS b lim ms n p s) → SR b (laS b lim ms n p s) → Q none (jj_h Z' Y S)) → jj_Ex (d + 4) mX2_lookAtAll 53 [.ref 15, .ref 10, iv a2, iv (k : Int)] [] (jj_h Z Y S) Q := by
  intro n
  induction n with
  | zero =>
    intro k Z p s hk h15 hp hW hS hR hQ
    exact bX2_lookAtAll_53 (by omega) (by omega) (fun h => bX2_lookAtAll_76 (hQ Z p fr.rf h15 hW hS hR)) (fun h => by omega)
  | succ n ih =>
    intro k Z p s hk h15 hp hW hS hR hQ
    refine bX2_lookAtAll_53 (by omega) (by omega) (fun h => by omega) (fun h => bX2_lookAtAll_61 (kX2_lookAt hB hp hl hW hS hR (fun Z1 f1 g1 hS1 => bX2_lookAtAll_66 (jj_Cv.deep (d := d + 1) (by omega) (kX3_step hB hm hp (hW.fr f1) (fun Z2 f2 hW2 => bX2_lookAtAll_70 ?_))))))
    have f12 : fr swc Z Z2 := (f1.mono (fun a ha => by unfold swc at ha; unfold svc; omega)).trans (f2.mono (fun a ha => by unfold swc at ha; unfold wkc; omega))
    exact ih (k + 1) Z2 _ _ (by omega) (by rw [f2 15 (by unfold wkc; omega), g1]; exact h15) (bd_od hm _ (Nat.le_refl _) hp) hW2 (hS1.fr f2) (hR.lk hB hp) (fun Z' p' f3 g3 hW3 hS3 hR3 => hQ Z' p' (f12.trans f3) g3 hW3 hS3 hR3)
end SW

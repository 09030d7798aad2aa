/-! price, weight, more: both calls agree -/
theorem mxq.or {A B C : (Nat → Int) → Prop} {V : (Nat → Int) → Int} {M M' : Int} (h : mxq A V M) (h' : mxq B V M') (hm : -1000000 ≤ M) (hm' : -1000000 ≤ M') (e : ∀ q, C q ↔ A q ∨ B q) : mxq C V (max M M') := by
  rcases h with ⟨h1, h2⟩ | ⟨⟨q, h1, h2⟩, h3⟩
  · rw [show max M M' = M' by omega]
    refine h'.congr (fun q => ⟨fun hq => ?_, fun hq => (e q).2 (Or.inr hq)⟩)
    rcases (e q).1 hq with z | z
    · exact absurd z (h2 q)
    · exact z
  · rcases h' with ⟨g1, g2⟩ | ⟨⟨q', g1, g2⟩, g3⟩
    · rw [show max M M' = M by omega]
      refine Or.inr ⟨⟨q, (e q).2 (Or.inl h1), h2⟩, fun u hu => ?_⟩
      rcases (e u).1 hu with z | z
      · exact h3 u z
      · exact absurd z (g2 u)
    · refine Or.inr ⟨?_, fun u hu => ?_⟩
      · by_cases c : M ≤ M'
        · exact ⟨q', (e q').2 (Or.inr g1), by omega⟩
        · exact ⟨q, (e q).2 (Or.inl h1), by omega⟩
      · rcases (e u).1 hu with z | z
        · have := h3 u z; omega
        · have := g3 u z; omega
/-- without a rule, those fit too that it alone forbids -/
theorem fit_off {b : Bk} {r : Nat} {hi : Nat → Int} (hB : BR b) (h9 : bd (bN b) hi) (hr : r < bM b) (q : Nat → Int) : (bx (fun _ => 0) hi (bN b) q ∧ fit b (pu (lim0 b) r 1000000) q) ↔ (bx (fun _ => 0) hi (bN b) q ∧ fit b (lim0 b) q) ∨ (bx (fun _ => 0) hi (bN b) q ∧ only b (lim0 b) r q) := by
  constructor
  · rintro ⟨h1, h2⟩
    by_cases e : ldp b q r ≤ lim0 b r
    · refine Or.inl ⟨h1, fun r' hr' => ?_⟩
      by_cases er : r' = r
      · subst er; exact e
      · have := h2 r' hr'
        rw [pu_ne _ _ er] at this; exact this
    · refine Or.inr ⟨h1, by omega, fun r' hr' er => ?_⟩
      have := h2 r' hr'
      rw [pu_ne _ _ er] at this; exact this
  · have hq : bx (fun _ => 0) hi (bN b) q → ldp b q r ≤ 1000000 := fun h1 => by
      have := ldp_bound hB (bx_bd (fun _ _ => Int.le_refl _) (fun t ht => (h9 t ht).2) h1) hr
      omega
    rintro (⟨h1, h2⟩ | ⟨h1, h2⟩)
    · refine ⟨h1, fun r' hr' => ?_⟩
      by_cases er : r' = r
      · subst er; rw [pu_at]; exact hq h1
      · rw [pu_ne _ _ er]; exact h2 r' hr'
    · refine ⟨h1, fun r' hr' => ?_⟩
      by_cases er : r' = r
      · subst er; rw [pu_at]; exact hq h1
      · rw [pu_ne _ _ er]; exact h2.2 r' hr' er
/-- how much more without a rule -/
def wt (s : SvT) (r : Nat) : Int := max 0 (s.2.2.2.2.2.2 r - s.1)
theorem lim0_on {b : Bk} {r : Nat} : lim0 (bkOn b r 0) = pu (lim0 b) r 1000000 := by
  funext q
  show (if (if q = r then (0 : Int) else bO b q) = 0 then 1000000 else bI b q) = if q = r then 1000000 else (if bO b q = 0 then 1000000 else bI b q)
  by_cases e : q = r
  · rw [if_pos e, if_pos e, if_pos rfl]
  · rw [if_neg e, if_neg e]
theorem lim0_li {b : Bk} {r : Nat} {v : Int} (h : ¬ bO b r = 0) : lim0 (bkLimit b r v) = pu (lim0 b) r v := by
  funext q
  show (if bO b q = 0 then 1000000 else (if q = r then v else bI b q)) = if q = r then v else (if bO b q = 0 then 1000000 else bI b q)
  by_cases e : q = r
  · subst e; rw [if_pos rfl, if_pos rfl, if_neg h]
  · rw [if_neg e, if_neg e]
theorem lim0_lo {b : Bk} {r : Nat} {v : Int} (h : bO b r = 0) : lim0 (bkLimit b r v) = lim0 b := by
  funext q
  show (if bO b q = 0 then 1000000 else (if q = r then v else bI b q)) = (if bO b q = 0 then 1000000 else bI b q)
  by_cases e : q = r
  · subst e; rw [if_pos h, if_pos h]
  · rw [if_neg e]
section OP5
variable {CN : Bk → (Nat → Nat → Int) → (Nat → Nat → Int) → Prop} {b : Bk} {Z Y : Nat → Nat → Int} {S : Nat × (Nat → Int32)} {d : Nat}
theorem kX5_value {Ki : Int → jj_Hp → Prop} (hB : BR b) (hM : MB Z b) (k : ∀ Z' v, fr tkc Z Z' → m27 Z Z' → mxq (fun q => bx (fun _ => 0) (bT b) (bN b) q ∧ fit b (lim0 b) q) (vlp b) v → Ki v (jj_h Z' Y S)) : jj_Ci (d + 3) mX5_value [.ref 27] (jj_h Z Y S) Ki := by
  refine nX5_value (bX5_value_0 (kX5_look hB hM (Or.inl rfl) (fun Z2 f2 g2 hM2 hK2 hR2 h17 => bX5_value_7 ⟨_, rfl, k Z2 _ f2 g2 ?_⟩)))
  rw [hK2.1]
  have := lkF_mx (s := s00 Z) hB (h := -1000000) (kk := 0) (Or.inl rfl) rfl
  rw [lkLo_no, lkHi_no] at this
  exact this
theorem kX2_gainWithout {Ki : Int → jj_Hp → Prop} {r : Nat} {s : SvT} (hr : r < bM b) (h6 : bM b ≤ 6) (hK : SK b Z s) (hR : SR b s) (k : Ki (wt s r) (jj_h Z Y S)) : jj_Ci (d + 1) mX2_gainWithout [.ref 15, iv (r : Int)] (jj_h Z Y S) Ki := by
  have h1 := hR.2.2.1 r hr
  have h2 : -1000000 ≤ s.1 ∧ s.1 ≤ 4000 := by
    rcases hR.1 with h | h <;> omega
  refine nX2_gainWithout (bX2_gainWithout_0 (by omega) (by omega) ?_)
  rw [Int.toNat_natCast, hK.2.2.2.2.2.2 r hr, hK.2.1]
  exact kJ9_max_7cf53 (by omega) (by omega) (bX2_gainWithout_15 ⟨_, rfl, k⟩)
/-- the reference's weight of a rule -/
theorem kX5_weight {Ki : Int → jj_Hp → Prop} {r : Nat} (f g : Nat → Int) (hB : BR b) (hM : MB Z b) (hr : r < bM b) (k : ∀ Z', fr tkc Z Z' → m27 Z Z' → Ki (wt (svF b f g) r) (jj_h Z' Y S)) : jj_Ci (d + 4) mX5_weight [.ref 27, iv (r : Int)] (jj_h Z Y S) Ki := by
  have h6 := hB.2.1
  have hM' := hM
  obtain ⟨m1, m2, m3, m4, m5⟩ := hM
  have e2 : ((r : Int)).toNat = r := Int.toNat_natCast r
  have hO := (hB.2.2.2.1 r hr).2.2.2.2.1
  refine nX5_weight (bX5_weight_0 (kX5_isRule (by omega) (by omega) (fun c => bX5_weight_5 (by omega) (fun _ => bX5_weight_11 (kX5_value hB hM' (fun Z1 v f1 g1 hv => bX5_weight_15 (by omega) (by omega) (by omega) (by omega) ?_))) (fun e => by omega)) (fun c => by omega)))
  rw [e2]
  have hM1 := mb_tk hM' f1 g1
  have hM2 : MB (zu Z1 34 r 0) (bkOn b r 0) := by
    obtain ⟨q1, q2, q3, q4, q5⟩ := hM1
    refine ⟨?_, ?_, fun t ht => ?_, fun r' hr' => ?_, fun r' t hr' ht => ?_⟩
    · rw [zu_ne (by omega)]; exact q1
    · rw [zu_ne (by omega)]; exact q2
    · rw [zu_ne (by omega), zu_ne (by omega)]; exact q3 t ht
    · obtain ⟨w1, w2, w3, w4⟩ := q4 r' hr'
      rw [zu_ne (show ¬ 30 = 34 by omega), zu_ne (show ¬ 33 = 34 by omega), zu_ne (show ¬ 31 = 34 by omega), zu_ne (show ¬ 32 = 34 by omega)]
      refine ⟨w1, w2, ?_, w4⟩
      rw [on_O]
      by_cases e : r' = r
      · subst e; rw [zu_at, if_pos rfl]
      · rw [zu_nk e, if_neg e]; exact w3
    · rw [zu_ne (by omega)]; exact q5 r' t hr' ht
  refine kX5_value (b := bkOn b r 0) (hB.on (Or.inl rfl)) hM2 (fun Z2 v2 f2 g2 hv2 => bX5_weight_34 (by omega) (by omega) ?_ ⟨_, rfl, ?_⟩)
  · rw [(hM1.2.2.2.1 r hr).2.2.1]; exact hO
  · rw [e2]
    have hv2' : mxq (fun q => bx (fun _ => 0) (bT b) (bN b) q ∧ fit b (pu (lim0 b) r 1000000) q) (vlp b) v2 := by
      rw [← lim0_on]; exact hv2
    have hs := svP hB f g
    have hG := svG hB f g
    have hfb : -1000000 ≤ (svF b f g).2.2.2.2.2.2 r := by
      rcases hs.2.2.2 r hr with z | ⟨⟨q, z1, z2⟩, z3⟩
      · omega
      · have := vl_bound hB (bx_bd (fun _ _ => Int.le_refl _) (fun t ht => (bd_T hB t ht).2) z1.1)
        omega
    have e3 : v2 = max (svF b f g).1 ((svF b f g).2.2.2.2.2.2 r) := hv2'.unique (hs.1.or (hs.2.2.2 r hr) (by omega) hfb (fun q => fit_off hB (bd_T hB) hr q))
    have e4 : v = (svF b f g).1 := hv.unique hs.1
    have e5 : v2 - v = wt (svF b f g) r := by unfold wt; omega
    rw [e5]
    refine k _ (fun a ha j => ?_) (fun j hj => ?_)
    · by_cases e34 : a = 34 ∧ j = r
      · obtain ⟨rfl, rfl⟩ := e34
        rw [zu_at, f1 34 ha]
      · have : zu Z2 34 r (Z1 34 r) a j = Z2 a j := if_neg e34
        rw [this, f2 a ha, show zu Z1 34 r 0 a j = Z1 a j from if_neg e34, f1 a ha]
    · rw [zu_ne (by omega), g2 j hj, zu_ne (by omega), g1 j hj]
theorem op_weight (hC : CNf CN) (h : Inv SV CN b Z Y) {w : Int} (hw : i32 w) : PairI SV CN (d + 8) mX4_weight mX5_weight [.ref 0, iv w] [.ref 27, iv w] Z Y S := by
  have hB := h.1
  obtain ⟨n1, n2, n3, n4, n5, n6⟩ := h.nx
  refine nX4_weight (bX4_weight_0 (kX4_isRule hw (by omega) (fun c => bX4_weight_5 (by omega) (fun e => by omega) (fun _ => bX4_weight_8 ?_)) (fun c => bX4_weight_5 (by omega) (fun _ => bX4_weight_19 ⟨_, rfl, Z, Y, rfl, by omega, ?_⟩) (fun e => absurd rfl e))))
  · obtain ⟨r, er⟩ := Int.eq_ofNat_of_zero_le (show 0 ≤ w by omega)
    subst er
    refine kX4_freshSurvey hC h (fun Z1 hI hS f1 e1 => ?_)
    obtain ⟨f, g, hK, hR, h15⟩ := hS
    refine bX4_weight_12 (kX2_gainWithout (by omega) n6 hK hR (bX4_weight_16 ⟨_, rfl, Z1, Y, rfl, ?_, kX5_weight (d := d + 4) f g hB hI.2.2.1 (by omega) (fun Z2 f2 g2 => ⟨rfl, b, Z2, Y, rfl, inv_tk hI hC f2 g2⟩)⟩))
    have := hR.2.2.1 r (by omega)
    have := svG hB f g
    unfold wt
    omega
  · exact nX5_weight (bX5_weight_0 (kX5_isRule hw (by omega) (fun c' => by omega) (fun c' => bX5_weight_5 (by omega) (fun e => absurd rfl e) (fun _ => bX5_weight_8 ⟨_, rfl, rfl, b, Z, Y, rfl, h⟩))))
theorem wk_inv {Z1 Z2 : Nat → Nat → Int} (hI : Inv SV CN b Z1 Y) (hC : CNf CN) (f : fr wkc Z1 Z2) : Inv SV CN b Z2 Y :=
  hI.keep hC (f.mono (fun a ha => by unfold kpc at ha; unfold wkc; omega)) (f 27 (by unfold wkc; omega) 0) (f 27 (by unfold wkc; omega) 3) (fun _ _ _ _ => rfl)
theorem op_more (hC : CNf CN) (h : Inv SV CN b Z Y) {w : Int} (hw : i32 w) : PairI SV CN (d + 8) mX4_more mX5_more [.ref 0, iv w] [.ref 27, iv w] Z Y S := by
  have hB := h.1
  obtain ⟨n1, n2, n3, n4, n5, n6⟩ := h.nx
  have bad : ¬ (0 ≤ w ∧ w < Z 1 0 ∧ bT b w.toNat < 9) → jj_Ci (d + 8) mX5_more [.ref 27, iv w] (jj_h Z Y S) (fun y h2 => y = -1000001 ∧ ∃ b' Z' Y', h2 = jj_h Z' Y' S ∧ Inv SV CN b' Z' Y') := by
    intro hn
    refine nX5_more (bX5_more_0 (kX5_isThing hw (by omega) (fun c' => bX5_more_5 (by omega) (fun e => by omega) (fun _ => ?_)) (fun c' => bX5_more_5 (by omega) (fun _ => bX5_more_19 ⟨_, rfl, rfl, b, Z, Y, rfl, h⟩) (fun e => absurd rfl e))))
    have e29 := (h.2.2.1.2.2.1 w.toNat (by omega)).2
    have hT := hB.2.2.1 w.toNat (by omega)
    exact bX5_more_8 (by omega) (by omega) (by omega) (fun e => by omega) (fun e => bX5_more_19 ⟨_, rfl, rfl, b, Z, Y, rfl, h⟩)
  refine nX4_more (bX4_more_0 (kX4_isThing hw (by omega) (fun c => bX4_more_5 (by omega) (fun e => by omega) (fun _ => ?_)) (fun c => bX4_more_5 (by omega) (fun _ => bX4_more_22 ⟨_, rfl, Z, Y, rfl, by omega, bad (by omega)⟩) (fun e => absurd rfl e))))
  have e3 := (h.2.1.2.2.1 w.toNat (by omega)).2
  have hT := hB.2.2.1 w.toNat (by omega)
  refine bX4_more_8 (by omega) (by omega) (by omega) (fun e9 => bX4_more_25 ?_) (fun e9 => bX4_more_22 ⟨_, rfl, Z, Y, rfl, by omega, bad (by omega)⟩)
  obtain ⟨t, et⟩ := Int.eq_ofNat_of_zero_le (show 0 ≤ w by omega)
  subst et
  rw [Int.toNat_natCast] at e3 hT e9
  have hB' : BR (bkMost b t (bT b t + 1)) := hB.most (by omega)
  have hms : bd (bN b) (pu (bT b) t (bT b t + 1)) := (bd_T hB).pu (by omega)
  have hl : ∀ r, r < bM b → i32 (lim0 b r) := fun r hr => by have := i_lim hB hr; omega
  refine kX4_freshSurvey hC h (fun Z1 hI hS f1 e1 => ?_)
  obtain ⟨f, g, hK, hR, h15⟩ := hS
  have hG := svG hB f g
  refine bX4_more_29 (kX3_begin hB hI.2.1 (fun Z2 f2 hW2 => bX4_more_40 (kX3_allowOneMore hB (by omega) hW2 (fun Z3 f3 hW3 => bX4_more_48 (jj_Ci.deep (d := d + 3) (by omega) (kX3_greatestFitting hB hms hl hW3 (fun Z4 f4 => bX4_more_55 ?_)))))))
  have mg := mG (b := b) (lim := lim0 b) (hi := pu (bT b) t (bT b t + 1)) hB hms (fit0 (fun r hr => (i_lim hB hr).1))
  have mg0 := mx_ge0 hB hms (fun r hr => (i_lim hB hr).1) mg
  rw [hK.2.1]
  have hI4 : Inv SV CN b Z4 Y := wk_inv hI hC (f2.trans (f3.trans f4))
  refine ⟨_, rfl, Z4, Y, rfl, by omega, ?_⟩
  obtain ⟨m1, m2, m3, m4, m5, m6⟩ := hI4.nx
  have e2 : ((t : Int)).toNat = t := Int.toNat_natCast t
  have e29 := (hI4.2.2.1.2.2.1 t (by omega)).2
  refine nX5_more (bX5_more_0 (kX5_isThing hw (by omega) (fun c' => bX5_more_5 (by omega) (fun e => by omega) (fun _ => bX5_more_8 (by omega) (by omega) (by rw [e2]; omega) (fun e => bX5_more_22 (jj_Ci.deep (d := d + 3) (by omega) (kX5_value hB hI4.2.2.1 (fun Z5 v f5 g5 hv => bX5_more_26 (by omega) (by omega) (by omega) (by omega) ?_)))) (fun e => by rw [e2] at e; omega))) (fun c' => by omega)))
  rw [e2]
  have hM5 := mb_tk hI4.2.2.1 f5 g5
  have hM6 : MB (zu Z5 29 t (Z5 29 t + 1)) (bkMost b t (bT b t + 1)) := by
    obtain ⟨q1, q2, q3, q4, q5⟩ := hM5
    refine ⟨?_, ?_, fun u hu => ?_, fun r' hr' => ?_, fun r' u hr' hu => ?_⟩
    · rw [zu_ne (by omega)]; exact q1
    · rw [zu_ne (by omega)]; exact q2
    · rw [zu_ne (show ¬ 28 = 29 by omega), mo_T]
      refine ⟨(q3 u hu).1, ?_⟩
      by_cases eu : u = t
      · subst eu; rw [zu_at, if_pos rfl, (q3 u hu).2]
      · rw [zu_nk eu, if_neg eu]; exact (q3 u hu).2
    · rw [zu_ne (show ¬ 30 = 29 by omega), zu_ne (show ¬ 33 = 29 by omega), zu_ne (show ¬ 34 = 29 by omega), zu_ne (show ¬ 31 = 29 by omega), zu_ne (show ¬ 32 = 29 by omega)]; exact q4 r' hr'
    · rw [zu_ne (by omega)]; exact q5 r' u hr' hu
  refine jj_Ci.deep (d := d + 3) (by omega) (kX5_value (b := bkMost b t (bT b t + 1)) hB' hM6 (fun Z6 v6 f6 g6 hv6 => bX5_more_41 (by omega) (by omega) (by omega) (by omega) ⟨_, rfl, ?_, b, _, Y, rfl, ?_⟩))
  · have a1 : v6 = _ := hv6.unique mg
    have a2 : v = (svF b f g).1 := hv.unique (svP hB f g).1
    rw [a1, a2]
  · rw [e2]
    have ff : fr tkc Z4 (zu Z6 29 t (Z6 29 t - 1)) := fun a ha j => by
      by_cases e34 : a = 29 ∧ j = t
      · obtain ⟨rfl, rfl⟩ := e34
        rw [zu_at, f6 29 ha, zu_at, f5 29 ha]; omega
      · rw [show zu Z6 29 t (Z6 29 t - 1) a j = Z6 a j from if_neg e34, f6 a ha, show zu Z5 29 t (Z5 29 t + 1) a j = Z5 a j from if_neg e34, f5 a ha]
    exact inv_tk hI4 hC ff (fun j hj => by rw [zu_ne (by omega), g6 j hj, zu_ne (by omega), g5 j hj])
theorem op_price (hC : CNf CN) (h : Inv SV CN b Z Y) {w u : Int} (hw : i32 w) (hu : i32 u) : PairI SV CN (d + 8) mX4_price mX5_price [.ref 0, iv w, iv u] [.ref 27, iv w, iv u] Z Y S := by
  have hB := h.1
  obtain ⟨n1, n2, n3, n4, n5, n6⟩ := h.nx
  have bad : ¬ (0 ≤ w ∧ w < Z 1 1 ∧ (0 ≤ bI b w.toNat + u ∧ ((bK b w.toNat = 0 ∧ bI b w.toNat + u ≤ 999) ∨ (¬ bK b w.toNat = 0 ∧ bI b w.toNat + u ≤ 9)))) → jj_Ci (d + 8) mX5_price [.ref 27, iv w, iv u] (jj_h Z Y S) (fun y h2 => y = -1000001 ∧ ∃ b' Z' Y', h2 = jj_h Z' Y' S ∧ Inv SV CN b' Z' Y') := by
    intro hn
    refine nX5_price (bX5_price_0 (kX5_isRule hw (by omega) (fun c' => bX5_price_5 (by omega) (fun e => by omega) (fun _ => ?_)) (fun c' => bX5_price_5 (by omega) (fun _ => bX5_price_30 ⟨_, rfl, rfl, b, Z, Y, rfl, h⟩) (fun e => absurd rfl e))))
    obtain ⟨g1, g2, g3, g4⟩ := h.2.2.1.2.2.2.1 w.toNat (by omega)
    have hR := hB.2.2.2.1 w.toNat (by omega)
    refine bX5_price_8 (by omega) (by omega) (by omega) (by omega) (by omega) hu ?_
    rw [g1, g2]
    exact kX5_isLimit (by omega) (by omega) (fun c2 => by omega) (fun c2 => bX5_price_27 (by omega) (fun e => absurd rfl e) (fun _ => bX5_price_30 ⟨_, rfl, rfl, b, Z, Y, rfl, h⟩))
  refine nX4_price (bX4_price_0 (kX4_isRule hw (by omega) (fun c => bX4_price_5 (by omega) (fun e => by omega) (fun _ => ?_)) (fun c => bX4_price_5 (by omega) (fun _ => bX4_price_36 ⟨_, rfl, Z, Y, rfl, by omega, bad (by omega)⟩) (fun e => absurd rfl e))))
  obtain ⟨x1, x2, x3, x4⟩ := h.2.1.2.2.2.1 w.toNat (by omega)
  have hR := hB.2.2.2.1 w.toNat (by omega)
  refine bX4_price_8 (by omega) (by omega) (by omega) (by omega) (by omega) hu ?_
  rw [x1, x2]
  refine kX4_isLimit (by omega) (by omega) (fun c2 => bX4_price_33 (by omega) (fun _ => bX4_price_39 (by omega) (by omega) (by omega) (fun e8 => bX4_price_53 ?_) (fun e8 => bX4_price_51 ⟨_, rfl, Z, Y, rfl, by omega, ?_⟩)) (fun e => by omega)) (fun c2 => bX4_price_33 (by omega) (fun e => absurd rfl e) (fun _ => bX4_price_36 ⟨_, rfl, Z, Y, rfl, by omega, bad (by omega)⟩))
  all_goals
    obtain ⟨r, er⟩ := Int.eq_ofNat_of_zero_le (show 0 ≤ w by omega)
    subst er
    have e2 : ((r : Int)).toNat = r := Int.toNat_natCast r
    rw [e2] at x1 x2 x3 x4 hR c2 e8 bad
    have hB' : BR (bkLimit b r (bI b r + u)) := hB.limit c2
    -- the reference's call
    have mdl : ∀ (Z4 : Nat → Nat → Int) (G G' : Int), Inv SV CN b Z4 Y → mxq (fun q => bx (fun _ => 0) (bT b) (bN b) q ∧ fit b (lim0 b) q) (vlp b) G → mxq (fun q => bx (fun _ => 0) (bT b) (bN b) q ∧ fit b (lim0 (bkLimit b r (bI b r + u))) q) (vlp b) G' → jj_Ci (d + 8) mX5_price [.ref 27, iv (r : Int), iv u] (jj_h Z4 Y S) (fun y h2 => y = G' - G ∧ ∃ b' Z' Y', h2 = jj_h Z' Y' S ∧ Inv SV CN b' Z' Y') := by
      intro Z4 G G' hI4 hG hG'
      obtain ⟨m1, m2, m3, m4, m5, m6⟩ := hI4.nx
      obtain ⟨g1, g2, g3, g4⟩ := hI4.2.2.1.2.2.2.1 r (by omega)
      refine nX5_price (bX5_price_0 (kX5_isRule hw (by omega) (fun c' => bX5_price_5 (by omega) (fun e => by omega) (fun _ => ?_)) (fun c' => by omega)))
      refine bX5_price_8 (by omega) (by omega) (by omega) (by omega) (by rw [e2]; omega) hu ?_
      rw [e2, g1, g2]
      refine kX5_isLimit (by omega) (by omega) (fun c3 => bX5_price_27 (by omega) (fun _ => bX5_price_33 (jj_Ci.deep (d := d + 3) (by omega) (kX5_value hB hI4.2.2.1 (fun Z5 v f5 g5 hv => bX5_price_37 (by omega) (by omega) (by omega) (by omega) ?_)))) (fun e => by omega)) (fun c3 => by omega)
      rw [e2]
      have hM5 := mb_tk hI4.2.2.1 f5 g5
      have hM6 : MB (zu Z5 33 r (Z5 33 r + u)) (bkLimit b r (bI b r + u)) := by
        obtain ⟨q1, q2, q3, q4, q5⟩ := hM5
        refine ⟨?_, ?_, fun t ht => ?_, fun r' hr' => ?_, fun r' t hr' ht => ?_⟩
        · rw [zu_ne (by omega)]; exact q1
        · rw [zu_ne (by omega)]; exact q2
        · rw [zu_ne (by omega), zu_ne (by omega)]; exact q3 t ht
        · obtain ⟨w1, w2, w3, w4⟩ := q4 r' hr'
          rw [zu_ne (show ¬ 30 = 33 by omega), zu_ne (show ¬ 34 = 33 by omega), zu_ne (show ¬ 31 = 33 by omega), zu_ne (show ¬ 32 = 33 by omega)]
          refine ⟨w1, ?_, w3, w4⟩
          rw [li_I]
          by_cases e : r' = r
          · subst e; rw [zu_at, if_pos rfl, w2]
          · rw [zu_nk e, if_neg e]; exact w2
        · rw [zu_ne (by omega)]; exact q5 r' t hr' ht
      refine jj_Ci.deep (d := d + 3) (by omega) (kX5_value (b := bkLimit b r (bI b r + u)) hB' hM6 (fun Z6 v6 f6 g6 hv6 => bX5_price_52 (by omega) (by omega) (by omega) (by omega) ⟨_, rfl, ?_, b, _, Y, rfl, ?_⟩))
      · have a1 : v6 = G' := hv6.unique hG'
        have a2 : v = G := hv.unique hG
        rw [a1, a2]
      · rw [e2]
        have ff : fr tkc Z4 (zu Z6 33 r (Z6 33 r - u)) := fun a ha j => by
          by_cases e34 : a = 33 ∧ j = r
          · obtain ⟨rfl, rfl⟩ := e34
            rw [zu_at, f6 33 ha, zu_at, f5 33 ha]; omega
          · rw [show zu Z6 33 r (Z6 33 r - u) a j = Z6 a j from if_neg e34, f6 a ha, show zu Z5 33 r (Z5 33 r + u) a j = Z5 a j from if_neg e34, f5 a ha]
        exact inv_tk hI4 hC ff (fun j hj => by rw [zu_ne (by omega), g6 j hj, zu_ne (by omega), g5 j hj])
  · have hO : ¬ bO b r = 0 := by omega
    have el : lim0 b r = bI b r := if_neg hO
    have hl : ∀ q, q < bM b → i32 (pu (lim0 b) r (lim0 b r + u) q) := fun q hq => by
      have := i_lim hB hq
      by_cases e : q = r
      · subst e; rw [pu_at]; omega
      · rw [pu_ne _ _ e]; omega
    have hl0 : ∀ q, q < bM b → 0 ≤ pu (lim0 b) r (lim0 b r + u) q := fun q hq => by
      have := i_lim hB hq
      by_cases e : q = r
      · subst e; rw [pu_at]; omega
      · rw [pu_ne _ _ e]; omega
    refine kX4_freshSurvey hC h (fun Z1 hI hS f1 e1 => ?_)
    obtain ⟨f, g, hK, hR2, h15⟩ := hS
    have hG := svG hB f g
    refine bX4_price_57 (kX3_begin hB hI.2.1 (fun Z2 f2 hW2 => bX4_price_68 (kX3_loosen hB (by omega) hW2 (fun Z3 f3 hW3 => bX4_price_77 (jj_Ci.deep (d := d + 3) (by omega) (kX3_greatestFitting hB (bd_T hB) hl hW3 (fun Z4 f4 => bX4_price_84 ?_)))))))
    have mg := mG (b := b) (lim := pu (lim0 b) r (lim0 b r + u)) (hi := bT b) hB (bd_T hB) (fit0 hl0)
    have mg0 := mx_ge0 hB (bd_T hB) hl0 mg
    rw [hK.2.1]
    have hI4 : Inv SV CN b Z4 Y := wk_inv hI hC (f2.trans (f3.trans f4))
    refine ⟨_, rfl, Z4, Y, rfl, by omega, mdl Z4 _ _ hI4 (svP hB f g).1 ?_⟩
    rw [lim0_li hO, ← el]; exact mg
  · have hO : bO b r = 0 := by omega
    have := mdl Z (svF b (Z 16) (Z 17)).1 (svF b (Z 16) (Z 17)).1 h (svP hB _ _).1 (by rw [lim0_lo hO]; exact (svP hB _ _).1)
    rw [show (svF b (Z 16) (Z 17)).1 - (svF b (Z 16) (Z 17)).1 = 0 by omega] at this
    exact this
end OP5

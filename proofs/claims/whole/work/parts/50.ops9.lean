/-! holds, gap: both calls agree -/
theorem pos_mul {k x : Int} (hk : 0 < k) : 0 < k * x ↔ 0 < x := by
  constructor
  · intro h
    by_cases e : 0 < x
    · exact e
    · have := Int.mul_nonneg (show 0 ≤ k by omega) (show 0 ≤ -x by omega)
      rw [Int.mul_neg] at this
      omega
  · intro h; exact Int.mul_pos hk h
theorem hold_q {s p e s' p' e' ms mp me ms' mp' me' : Int} (he : 0 < e) (he' : 0 < e') (hme : 0 < me) (hme' : 0 < me') (h1 : s * me = ms * e) (h2 : p * me = mp * e) (h3 : s' * me' = ms' * e') (h4 : p' * me' = mp' * e') : (0 < p * e' - p' * e ↔ 0 < mp * me' - mp' * me) ∧ (0 < p * e' - p' * e → (s' * e - s * e') / (p * e' - p' * e) = (ms' * me - ms * me') / (mp * me' - mp' * me)) := by
  have n1 : (me * me') * (s' * e - s * e') = (e * e') * (ms' * me - ms * me') := by grind
  have d1 : (me * me') * (p * e' - p' * e) = (e * e') * (mp * me' - mp' * me) := by grind
  have k1 : 0 < me * me' := Int.mul_pos hme hme'
  have k2 : 0 < e * e' := Int.mul_pos he he'
  refine ⟨?_, fun _ => ?_⟩
  · rw [← pos_mul k1, d1, pos_mul k2]
  · rw [← Int.mul_ediv_mul_of_pos _ _ k1, n1, d1, Int.mul_ediv_mul_of_pos _ _ k2]
section OPS9
variable {b : Bk} {Z Y : Nat → Nat → Int} {S : Nat × (Nat → Int32)} {d : Nat} {p q : Nat}
theorem op_holds (h : Inv SV CN b Z Y) {w : Int} (hw : i32 w) : PairI SV CN (d + 11) mX4_holds mX5_holds [.ref 0, iv w] [.ref 27, iv w] Z Y S := by
  have hB := h.1
  obtain ⟨n1, n2, n3, n4, n5, n6⟩ := h.nx
  have bad : ¬ ((0 ≤ w ∧ w < (bM b : Nat)) ∧ ¬ bK b w.toNat = 2) → jj_Ci (d + 11) mX5_holds [.ref 27, iv w] (jj_h Z Y S) (fun y h2 => y = -1000001 ∧ ∃ b' Z' Y', h2 = jj_h Z' Y' S ∧ Inv SV CN b' Z' Y') := fun hn =>
    nX5_holds (bX5_holds_0 (kX5_isPrice hw hB h.2.2.1 (fun c => absurd c hn) (fun c => bX5_holds_5 (by omega) (fun z => absurd rfl z) (fun _ => bX5_holds_8 ⟨_, rfl, rfl, b, Z, Y, rfl, h⟩))))
  refine nX4_holds (bX4_holds_0 (kX4_isRule hw (by omega) (fun c => bX4_holds_5 (by omega) (fun z => by omega) (fun _ => ?_)) (fun c => bX4_holds_5 (by omega) (fun _ => bX4_holds_21 ⟨_, rfl, Z, Y, rfl, by omega, bad (by omega)⟩) (fun z => absurd rfl z))))
  obtain ⟨x1, x2, x3, x4⟩ := h.2.1.2.2.2.1 w.toNat (by omega)
  have hR := hB.2.2.2.1 w.toNat (by omega)
  refine bX4_holds_8 (by omega) (by omega) (by omega) (fun e => bX4_holds_24 (by omega) (by omega) (by omega) (fun e2 => bX4_holds_40 ?_) (fun e2 => bX4_holds_36 ⟨_, rfl, Z, Y, rfl, by omega, ?_⟩)) (fun e => bX4_holds_21 ⟨_, rfl, Z, Y, rfl, by omega, bad (by omega)⟩)
  all_goals
    obtain ⟨r, er⟩ := Int.eq_ofNat_of_zero_le (show 0 ≤ w by omega)
    subst er
    rw [Int.toNat_natCast] at x1 x2 x3 x4 hR e e2 bad
    have hr : r < bM b := by omega
    -- the reference's call
    have mdl : ∀ (Z1 Y1 : Nat → Nat → Int) (y : Int), Inv SV CN b Z1 Y1 → (∀ s Y2 (m : Int), Lst b (r : Int) (2 ^ rn b) s Y2 → (0 ≤ m ∧ m ≤ 400) → (∀ s', s' < 2 ^ rn b → RV b s' → 0 < dnr b (r : Int) s s' → m ≤ nmr b s s' / dnr b (r : Int) s s') → (m = 400 ∨ ∃ s', s' < 2 ^ rn b ∧ RV b s' ∧ 0 < dnr b (r : Int) s s' ∧ m = nmr b s s' / dnr b (r : Int) s s') → m = y) → jj_Ci (d + 11) mX5_holds [.ref 27, iv (r : Int)] (jj_h Z1 Y1 S) (fun z h2 => z = y ∧ ∃ b' Z' Y', h2 = jj_h Z' Y' S ∧ Inv SV CN b' Z' Y') := by
      intro Z1 Y1 y hI hy
      refine nX5_holds (bX5_holds_0 (kX5_isPrice hw hB hI.2.2.1 (fun c => bX5_holds_5 (by omega) (fun _ => bX5_holds_11 (jj_Cv.deep (d := d + 2) (by omega) (md_shares hI hw (fun Z2 Y2 s hI2 hM2 hR2 hL => bX5_holds_16 ?_)))) (fun z => by omega)) (fun c => absurd ⟨by omega, by rw [Int.toNat_natCast]; omega⟩ c)))
      exact lX5_holds23 (d := d + 9) (Z0 := Z2) (Y0 := Y2) hB hw (fun Z3 Y3 m f3 g3 hm h1 h2 => ⟨_, rfl, hy s Y2 m hL hm h1 h2, b, Z3, Y3, rfl, inv_sh hI2 f3 g3⟩) (2 ^ rn b) 0 Z2 Y2 400 _ _ (by omega) hM2 hR2 ⟨fr.rf, fun _ _ => rfl⟩ fr.rf hL (by omega) (fun s' hs' => by omega) (Or.inl rfl)
  · refine kX4_freshCorners h (fun Z1 Y1 hI hCN => ?_)
    obtain ⟨n, hn, h210, hCI⟩ := hCN
    have hBP := hCI.bp hB (r := r) (by omega)
    refine bX4_holds_44 (jj_Ci.deep (d := d + 2) (by omega) (kX1_flat (by omega) hn h210 hCI.pos hBP (fun j hj hmin => bX4_holds_51 ?_)))
    obtain ⟨p, q, hp, hq, hv, q1, q2, q3⟩ := hCI.1 j hj
    have bi := hv.bel_in hB
    have hc : ∀ p' q', p' < 2 ^ bM b → q' < 2 ^ bN b → VC b p' q' → qle (topc b p q) (slo b p q r) (bel b p q) (topc b p' q') (slo b p' q' r) (bel b p' q') := by
      intro p' q' hp' hq' hv'
      obtain ⟨i, hi, w1, w2, w3⟩ := hCI.2 p' q' trivial hp' hq' hv'
      have := hmin i hi
      rw [q1, q2, q3 r (by omega), w1, w2, w3 r (by omega)] at this
      exact this
    refine nX1_reach (bX1_reach_0 (lX1_reach (d := d + 8) (by omega) hj hn h210 hBP (fun i hi => ?_) (fun m hm hlow hatt => ⟨_, rfl, bX4_holds_55 ⟨_, rfl, Z1, Y1, rfl, by omega, mdl Z1 Y1 m hI (fun s Y2 m' hL hm' hlow' hatt' => ?_)⟩⟩) n 0 400 _ _ (by omega) (by omega) (fun i' hi' => by omega) (Or.inl rfl)))
    · have := hmin i hi
      rcases this with z | z <;> omega
    · have mi := mbl_in hB hL.2.1
      obtain ⟨e3, e4⟩ := lst_mp hB hr hL
      obtain ⟨X1, X2⟩ := flat_eq hB hr hv hL.2.1 hc e4
      -- the same fractions on both sides
      have same : ∀ p' q' s' i, VC b p' q' → RV b s' → bel b p' q' * msum b s' = mbl b s' * topc b p' q' → bel b p' q' * mp b s' r = mbl b s' * slo b p' q' r → Pt b Y1 i p' q' → (0 < Y1 23 (j * 6 + r) * Y1 22 i - Y1 23 (i * 6 + r) * Y1 22 j ↔ 0 < dnr b (r : Int) s s') ∧ (0 < Y1 23 (j * 6 + r) * Y1 22 i - Y1 23 (i * 6 + r) * Y1 22 j → (Y1 21 i * Y1 22 j - Y1 21 j * Y1 22 i) / (Y1 23 (j * 6 + r) * Y1 22 i - Y1 23 (i * 6 + r) * Y1 22 j) = nmr b s s' / dnr b (r : Int) s s') := by
        intro p' q' s' i hv' hV' t1 t2 hPt
        obtain ⟨w1, w2, w3⟩ := hPt
        have bi' := hv'.bel_in hB
        have mi' := mbl_in hB hV'
        unfold nmr dnr
        rw [e3, prv_mp hB hV'.1 hr, q1, q2, q3 r (by omega), w1, w2, w3 r (by omega)]
        exact hold_q bi.1 bi'.1 mi.1 mi'.1 X1 X2 (by rw [Int.mul_comm, ← t1, Int.mul_comm]) (by rw [Int.mul_comm, ← t2, Int.mul_comm])
      have le1 : m' ≤ m := by
        rcases hatt with z | ⟨i, hi, hpos, hm2⟩
        · omega
        · obtain ⟨p', q', hp', hq', hv', hPt⟩ := hCI.1 i hi
          obtain ⟨s', c1, c2, c3, c4⟩ := corner_base hB hv'
          obtain ⟨sa, sb⟩ := same p' q' s' i hv' c2 c3 (c4 r hr) hPt
          have := hlow' s' c1 c2 (sa.1 hpos)
          rw [← sb hpos] at this
          omega
      have le2 : m ≤ m' := by
        rcases hatt' with z | ⟨s', c1, c2, hpos, hm2⟩
        · omega
        · obtain ⟨p', q', a1, a2, a3, a4, a5⟩ := base_corner hB c2
          obtain ⟨i, hi, hPt⟩ := hCI.2 p' q' trivial a1 a2 a3
          obtain ⟨sa, sb⟩ := same p' q' s' i a3 c2 a4 (a5 r hr) hPt
          have hpos' := sa.2 hpos
          have := hlow i hi hpos'
          rw [sb hpos'] at this
          omega
      omega
  · have hO : bO b r = 0 := by omega
    refine mdl Z Y 400 h (fun s Y2 m hL hm hlow hatt => ?_)
    rcases hatt with z | ⟨s', c1, c2, hpos, hm2⟩
    · exact z
    · unfold dnr at hpos
      have z1 : ∀ s, mp b s r = 0 := fun s => by unfold mp; rw [cf_off hO, if_neg Bool.false_ne_true]
      rw [prv_mp hB hL.2.1.1 hr, prv_mp hB c2.1 hr, z1, z1, Int.zero_mul, Int.zero_mul] at hpos
      omega
theorem op_gap (h : Inv SV CN b Z Y) {w : Int} (hw : w = 0 ∨ w = 1) : PairL SV CN (d + 11) mX4_gap mX5_gap [.ref 0, iv w] [.ref 27, iv w] Z Y S := by
  have hB := h.1
  refine nX4_gap (bX4_gap_0 (kX4_freshCorners h (fun Z1 Y1 hI hCN => ?_)))
  obtain ⟨n, hn, h210, hCI⟩ := hCN
  have hBP := hCI.bp hB (r := 0) (by omega)
  refine bX4_gap_4 (jj_Ci.deep (d := d + 1) (by omega) (kX1_leastBound hn h210 hCI.pos hBP (fun j hj hmin => bX4_gap_9 (by omega) (by omega) (by omega) (by omega) ?_)))
  rw [Int.toNat_natCast]
  obtain ⟨p, q, hp, hq, hv, q1, q2, q3⟩ := hCI.1 j hj
  have bi := hv.bel_in hB
  have ti := hv.top_in hB hp
  have hc : ∀ p' q', p' < 2 ^ bM b → q' < 2 ^ bN b → VC b p' q' → topc b p q * bel b p' q' ≤ topc b p' q' * bel b p q := by
    intro p' q' hp' hq' hv'
    obtain ⟨i, hi, w1, w2, w3⟩ := hCI.2 p' q' trivial hp' hq' hv'
    have := hmin i hi
    rw [q1, q2, w1, w2] at this
    exact this
  rw [q1, q2]
  refine jj_Cr.deep (d := d + 5) (by omega) (kX4_freshSurvey CN_f hI (fun Z2 hI2 hS2 f2 e2 => ?_))
  obtain ⟨f, g, hK, hR, h15⟩ := hS2
  have hG := svG hB f g
  have hP := svP hB f g
  -- no plan is worth more than the bound
  have hwk : (svF b f g).1 * bel b p q ≤ topc b p q := by
    rcases hP.1 with z | ⟨⟨x, hx, hval⟩, _⟩
    · omega
    · rw [← hval]; exact weak hB hp hv hx.1 hx.2
  have hgb := mul_in (cx := 4000) (cy := 157464) hG (show 0 ≤ bel b p q ∧ bel b p q ≤ 157464 by omega)
  have e15 := hK.2.1
  refine bX4_gap_30 (by rw [e15]; omega) ?_
  rw [e15, Int.mul_comm (bel b p q)]
  have li := lowt_in (n := topc b p q - (svF b f g).1 * bel b p q) (below := w) (by omega) bi.1
  refine jj_Cl.deep (d := d + 1) (by omega) (kX4_inLowestTerms (by omega) (by omega) hw (bX4_gap_42 ⟨_, rfl, Z2, Y1, rfl, by omega, ?_⟩))
  refine nX5_gap (bX5_gap_0 (jj_Cv.deep (d := d + 2) (by omega) (md_shares hI2 (by omega) (fun Z3 Y3 s hI3 hM3 hR3 hL => bX5_gap_6 (jj_Ci.deep (d := d + 3) (by omega) (kX5_value hB hM3 (fun Z4 v f4 g4 hval => ?_)))))))
  have ev : v = (svF b f g).1 := hval.unique hP.1
  have mi := mbl_in hB hL.2.1
  have si := msum_in hB hL.2.1
  have leq := least_eq hB hv hL.2.1 hc (lst_le hL)
  have hvb := mul_in (cx := 4000) (cy := 157464) (x := v) (by omega) (show 0 ≤ mbl b s ∧ mbl b s ≤ 157464 by omega)
  have cross : (msum b s - v * mbl b s) * bel b p q = (topc b p q - (svF b f g).1 * bel b p q) * mbl b s := by
    rw [Int.sub_mul, Int.sub_mul, leq, ev, Int.mul_assoc, Int.mul_assoc, Int.mul_comm (mbl b s)]
  have hnn : 0 ≤ msum b s - v * mbl b s := by
    refine mulpos bi.1 ?_
    rw [Int.mul_comm, cross]
    exact Int.mul_nonneg (by omega) (by omega)
  rw [hL.2.2.1]
  refine bX5_gap_14 (by omega) ?_
  rw [hL.2.2.2.2.1]
  exact kX5_part (by omega) (by omega) hw (bX5_gap_29 ⟨_, rfl, lowt_eq hnn (by omega) mi.1 bi.1 cross, b, Z4, Y3, rfl, inv_tk hI3 CN_f f4 g4⟩)
end OPS9

/-! value, counted, first, fast, must: both calls agree -/
theorem inv_tk {CN : Bk → (Nat → Nat → Int) → (Nat → Nat → Int) → Prop} {b : Bk} {Z Y Z' : Nat → Nat → Int} (h : Inv SV CN b Z Y) (hC : CNf CN) (f : fr tkc Z Z') (g : m27 Z Z') : Inv SV CN b Z' Y :=
  h.keep hC (f.mono (fun a ha => by unfold kpc at ha; unfold tkc; omega)) (g 0 (by omega)) (g 3 (by omega)) (fun _ _ _ _ => rfl)
theorem lkF_no (b : Bk) (kk : Int) (s : SvT) : lkF b (-1000000) kk s = fdl (fun _ => 0) (bT b) (bN b) (lkM b (lim0 b)) (svN b).toNat (fun _ => 0) s := by
  unfold lkF svN
  rw [lkLo_no, lkHi_no]
theorem sv_sim {b : Bk} (hB : BR b) (f g : Nat → Int) (kk : Int) (Z : Nat → Nat → Int) : sim (svF b f g) (lkF b (-1000000) kk (s00 Z)) := by
  rw [lkF_no]
  exact sim_fdl hB bd_0 (bd_T hB) _ _ _ _ bd_0 ⟨rfl, rfl, rfl, Or.inl rfl⟩
theorem lkF_mx {b : Bk} {h kk : Int} {s : SvT} (hB : BR b) (hh : HH b h kk) (hs : s.1 = -1000000) : mxq (fun q => bx (lkLo h kk) (lkHi b h kk) (bN b) q ∧ fit b (lim0 b) q) (vlp b) (lkF b h kk s).1 :=
  mM hB (fun t ht => (lk_in hB hh ht).1) (fun t ht => (lk_in hB hh ht).2.2.1) (fun t ht => (lk_in hB hh ht).2.1) hs
theorem svN_in {b : Bk} (hB : BR b) : 0 < svN b ∧ svN b ≤ 10000 := by
  have h4 := hB.1
  obtain ⟨N, e1, e2, e3⟩ := pr_in (bd_T hB) (bN b) 0 1 (by omega)
  have e4 : pr (bT b) 0 (bN b) 1 = svN b := by
    have := pr_sz (bT b) (bN b) 0
    rw [Nat.zero_add] at this; exact this
  have e5 : 10 ^ bN b ≤ 10 ^ 4 := Nat.pow_le_pow_right (by omega) h4
  have eN : svN b = (N : Int) := by rw [← e4]; exact e1
  have := e3 (by omega)
  omega
theorem nf_c (s : SvT) (p : Nat → Int) (v : Int) : ((nfS s p v).2.1 = 1 ∨ (nfS s p v).2.1 = s.2.1 + 1 ∨ (nfS s p v).2.1 = s.2.1) ∧ (nfS s p v).2.2.1 = s.2.2.1 + 1 := by
  unfold nfS
  split
  · exact ⟨Or.inl rfl, rfl⟩
  · split
    · exact ⟨Or.inr (Or.inl rfl), rfl⟩
    · exact ⟨Or.inr (Or.inr rfl), rfl⟩
theorem sv_cnt {b : Bk} (hB : BR b) (f g : Nat → Int) : 0 ≤ (svF b f g).2.1 ∧ (svF b f g).2.1 ≤ 10000 ∧ 0 ≤ (svF b f g).2.2.1 ∧ (svF b f g).2.2.1 ≤ 10000 := by
  have hb := svN_in hB
  have h := fdl_all (n := bN b) (lo := fun _ => 0) (hi := bT b) (f := lkS b (lim0 b)) (P := fun i (s : SvT) => 0 ≤ s.2.1 ∧ s.2.1 ≤ i ∧ 0 ≤ s.2.2.1 ∧ s.2.2.1 ≤ i) (fun t ht => (bd_T hB t ht).1) (fun i p s hp hi' h => ?_) (s := sv0 f g) ?_
  · have h2 : 0 ≤ (svF b f g).2.1 ∧ (svF b f g).2.1 ≤ svN b ∧ 0 ≤ (svF b f g).2.2.1 ∧ (svF b f g).2.2.1 ≤ svN b := h
    omega
  · have := rk_lt _ hp
    unfold lkS
    split
    · have := nf_c s p (vlp b p)
      omega
    · split
      · show 0 ≤ s.2.1 ∧ s.2.1 ≤ i + 1 ∧ 0 ≤ s.2.2.1 ∧ s.2.2.1 ≤ i + 1
        omega
      · omega
  · show (0 : Int) ≤ 0 ∧ (0 : Int) ≤ 0 ∧ (0 : Int) ≤ 0 ∧ (0 : Int) ≤ 0
    omega
/-- plans with a count of one THING held -/
theorem bx_held {b : Bk} {t : Nat} {c : Int} (ht : t < bN b) (hc : 0 ≤ c ∧ c ≤ bT b t) (q : Nat → Int) : bx (lkLo (t : Int) c) (lkHi b (t : Int) c) (bN b) q ↔ bx (fun _ => 0) (bT b) (bN b) q ∧ q t = c := by
  constructor
  · intro h
    have h1 := h t ht
    unfold lkLo lkHi at h1
    rw [if_pos rfl, if_pos rfl] at h1
    refine ⟨fun u hu => ?_, by omega⟩
    by_cases e : u = t
    · subst e; show 0 ≤ q u ∧ q u ≤ bT b u; omega
    · have h2 := h u hu
      unfold lkLo lkHi at h2
      rw [if_neg (by omega), if_neg (by omega)] at h2
      exact h2
  · rintro ⟨h1, h2⟩ u hu
    unfold lkLo lkHi
    by_cases e : u = t
    · subst e; rw [if_pos rfl, if_pos rfl]; omega
    · rw [if_neg (by omega), if_neg (by omega)]; exact h1 u hu
theorem wc_held {b : Bk} (hB : BR b) (f g : Nat → Int) {t c : Nat} {s : SvT} (hs : s.1 = -1000000) (ht : t < bN b) (hc : (c : Int) ≤ bT b t) : (svF b f g).2.2.2.2.2.1 t c = (lkF b (t : Int) (c : Int) s).1 := by
  have h1 := (svP hB f g).2.2.1 t c ht
  have h2 := lkF_mx (s := s) hB (h := (t : Int)) (kk := (c : Int)) (Or.inr ⟨by omega, by omega, by omega, by rw [Int.toNat_natCast]; exact hc⟩) hs
  refine h1.unique (h2.congr (fun q => ?_))
  rw [bx_held ht ⟨by omega, hc⟩]
  constructor
  · rintro ⟨a, c, e⟩; exact ⟨⟨a, e⟩, c⟩
  · rintro ⟨⟨a, e⟩, c⟩; exact ⟨a, c, e⟩
theorem wc_over {b : Bk} (hB : BR b) (f g : Nat → Int) {t c : Nat} (ht : t < bN b) (hc : bT b t < (c : Int)) : (svF b f g).2.2.2.2.2.1 t c = -1000000 := by
  refine ((svP hB f g).2.2.1 t c ht).unique (mxq.emp (fun q hq => ?_))
  have := hq.1 t ht
  have := hq.2.2
  omega
section OP4
variable {CN : Bk → (Nat → Nat → Int) → (Nat → Nat → Int) → Prop} {b : Bk} {Z Y : Nat → Nat → Int} {S : Nat × (Nat → Int32)} {d : Nat}
theorem op_value (hC : CNf CN) (h : Inv SV CN b Z Y) : PairI SV CN (d + 8) mX4_value mX5_value [.ref 0] [.ref 27] Z Y S := by
  have hB := h.1
  refine nX4_value (bX4_value_0 (kX4_freshSurvey hC h (fun Z1 hI hS f1 e1 => bX4_value_4 ⟨_, rfl, Z1, Y, rfl, ?_, nX5_value (bX5_value_0 (kX5_look hB hI.2.2.1 (Or.inl rfl) (fun Z2 f2 g2 hM2 hK2 hR2 h17 => bX5_value_7 ⟨_, rfl, ?_, b, Z2, Y, rfl, inv_tk hI hC f2 g2⟩)))⟩)))
  · obtain ⟨f, g, hK, hR, h15⟩ := hS
    have := svG hB f g
    rw [hK.2.1]; omega
  · obtain ⟨f, g, hK, hR, h15⟩ := hS
    rw [hK.2.1, hK2.1]; exact (sv_sim hB f g 0 Z1).1.symm
theorem op_counted (hC : CNf CN) (h : Inv SV CN b Z Y) {w : Int} (hw : i32 w) : PairI SV CN (d + 8) mX4_counted mX5_counted [.ref 0, iv w] [.ref 27, iv w] Z Y S := by
  have hB := h.1
  have hN := svN_in hB
  refine nX4_counted (bX4_counted_0 hw (fun e => bX4_counted_28 ?_) (fun e => bX4_counted_36 ?_) (fun e => bX4_counted_44 ?_) (fun e => bX4_counted_52 ⟨_, rfl, Z, Y, rfl, by omega, ?_⟩))
  · refine kX4_freshSurvey hC h (fun Z1 hI hS f1 e1 => bX4_counted_32 ⟨_, rfl, Z1, Y, rfl, ?_, ?_⟩)
    · obtain ⟨f, g, hK, hR, h15⟩ := hS
      have := sv_cnt hB f g
      rw [hK.2.2.1]; omega
    · refine nX5_counted (bX5_counted_0 (kX5_look hB hI.2.2.1 (Or.inl rfl) (fun Z2 f2 g2 hM2 hK2 hR2 h17 => bX5_counted_7 hw (fun e' => absurd e e') (fun _ => bX5_counted_11 ⟨_, rfl, ?_, b, Z2, Y, rfl, inv_tk hI hC f2 g2⟩))))
      obtain ⟨f, g, hK, hR, h15⟩ := hS
      rw [hK.2.2.1, hK2.2.1]; exact (sv_sim hB f g 0 Z1).2.1.symm
  · refine kX4_freshSurvey hC h (fun Z1 hI hS f1 e1 => bX4_counted_40 ⟨_, rfl, Z1, Y, rfl, ?_, ?_⟩)
    · obtain ⟨f, g, hK, hR, h15⟩ := hS
      have := sv_cnt hB f g
      rw [hK.2.2.2.1]; omega
    · refine nX5_counted (bX5_counted_0 (kX5_look hB hI.2.2.1 (Or.inl rfl) (fun Z2 f2 g2 hM2 hK2 hR2 h17 => bX5_counted_7 hw (fun _ => bX5_counted_18 hw (fun e' => absurd e e') (fun _ => bX5_counted_23 ⟨_, rfl, ?_, b, Z2, Y, rfl, inv_tk hI hC f2 g2⟩)) (fun e' => by omega))))
      obtain ⟨f, g, hK, hR, h15⟩ := hS
      rw [hK.2.2.2.1, hK2.2.2.1]; exact (sv_sim hB f g 0 Z1).2.2.1.symm
  · refine kX4_freshSurvey hC h (fun Z1 hI hS f1 e1 => bX4_counted_48 ⟨_, rfl, Z1, Y, rfl, ?_, ?_⟩)
    · obtain ⟨f, g, hK, hR, h15⟩ := hS
      rw [h15]; omega
    · refine nX5_counted (bX5_counted_0 (kX5_look hB hI.2.2.1 (Or.inl rfl) (fun Z2 f2 g2 hM2 hK2 hR2 h17 => bX5_counted_7 hw (fun _ => bX5_counted_18 hw (fun _ => bX5_counted_30 hw (fun e' => absurd e e') (fun _ => bX5_counted_35 ⟨_, rfl, ?_, b, Z2, Y, rfl, inv_tk hI hC f2 g2⟩)) (fun e' => by omega)) (fun e' => by omega))))
      obtain ⟨f, g, hK, hR, h15⟩ := hS
      rw [h15, h17, lkLo_no, lkHi_no]; rfl
  · exact nX5_counted (bX5_counted_0 (kX5_look hB h.2.2.1 (Or.inl rfl) (fun Z2 f2 g2 hM2 hK2 hR2 h17 => bX5_counted_7 hw (fun _ => bX5_counted_18 hw (fun _ => bX5_counted_30 hw (fun _ => bX5_counted_42 ⟨_, rfl, rfl, b, Z2, Y, rfl, inv_tk h hC f2 g2⟩) (fun e' => by omega)) (fun e' => by omega)) (fun e' => by omega))))
theorem op_first (hC : CNf CN) (h : Inv SV CN b Z Y) {w : Int} (hw : i32 w) : PairI SV CN (d + 8) mX4_first mX5_first [.ref 0, iv w] [.ref 27, iv w] Z Y S := by
  have hB := h.1
  obtain ⟨n1, n2, n3, n4, n5, n6⟩ := h.nx
  refine nX4_first (bX4_first_0 (kX4_isThing hw (by omega) (fun c => bX4_first_5 (by omega) (fun e => by omega) (fun _ => bX4_first_8 (kX4_freshSurvey hC h (fun Z1 hI hS f1 e1 => bX4_first_12 (by omega) (by omega) ⟨_, rfl, Z1, Y, rfl, ?_, ?_⟩)))) (fun c => bX4_first_5 (by omega) (fun _ => bX4_first_20 ⟨_, rfl, Z, Y, rfl, by omega, ?_⟩) (fun e => absurd rfl e))))
  · obtain ⟨f, g, hK, hR, h15⟩ := hS
    have hG := svG hB f g
    rw [(hK.2.2.2.2.1 w.toNat (by omega)).1]
    rcases hR.1 with h8 | h8
    · omega
    · have := h8.2.2 w.toNat (by omega)
      omega
  · obtain ⟨m1, m2, m3, m4, m5, m6⟩ := hI.nx
    refine nX5_first (bX5_first_0 (kX5_isThing hw (by omega) (fun c' => bX5_first_5 (by omega) (fun _ => bX5_first_11 (kX5_look hB hI.2.2.1 (Or.inl rfl) (fun Z2 f2 g2 hM2 hK2 hR2 h17 => bX5_first_18 (by omega) (by omega) ⟨_, rfl, ?_, b, Z2, Y, rfl, inv_tk hI hC f2 g2⟩))) (fun e => by omega)) (fun c' => by omega)))
    obtain ⟨f, g, hK, hR, h15⟩ := hS
    have hG := svG hB f g
    have hs := sv_sim hB f g 0 Z1
    rw [(hK.2.2.2.2.1 w.toNat (by omega)).1, (hK2.2.2.2 w.toNat (by omega)).1]
    rcases hs.2.2.2 with h8 | h8
    · omega
    · rw [h8.1]
  · exact nX5_first (bX5_first_0 (kX5_isThing hw (by omega) (fun c' => by omega) (fun c' => bX5_first_5 (by omega) (fun e => absurd rfl e) (fun _ => bX5_first_8 ⟨_, rfl, rfl, b, Z, Y, rfl, h⟩))))
theorem op_fast (hC : CNf CN) (h : Inv SV CN b Z Y) {w : Int} (hw : i32 w) : PairI SV CN (d + 8) mX4_fast mX5_fast [.ref 0, iv w] [.ref 27, iv w] Z Y S := by
  have hB := h.1
  obtain ⟨n1, n2, n3, n4, n5, n6⟩ := h.nx
  have key : ∀ (Z1 : Nat → Nat → Int) (x : Int), 0 ≤ w ∧ w < Z 1 0 → Inv SV CN b Z1 Y → SV b Z1 → x = Z1 17 w.toNat → jj_Ci (d + 8) mX5_fast [.ref 27, iv w] (jj_h Z1 Y S) (fun y h2 => y = x ∧ ∃ b' Z' Y', h2 = jj_h Z' Y' S ∧ Inv SV CN b' Z' Y') := by
    intro Z1 x c hI hS hx
    obtain ⟨m1, m2, m3, m4, m5, m6⟩ := hI.nx
    obtain ⟨f, g, hK, hR, h15⟩ := hS
    have hG := svG hB f g
    have hs := sv_sim hB f g 0 Z1
    have h39 : ∀ Z2, MK b Z2 (lkF b (-1000000) 0 (s00 Z1)) → Z2 39 w.toNat = x := by
      intro Z2 hK2
      rw [hx, (hK.2.2.2.2.1 w.toNat (by omega)).2, (hK2.2.2.2 w.toNat (by omega)).2]
      rcases hs.2.2.2 with h8 | h8
      · omega
      · rw [h8.2]
    have h01 : x = 0 ∨ x = 1 := by
      rw [hx, (hK.2.2.2.2.1 w.toNat (by omega)).2]
      rcases hR.2.2.2 w.toNat (by omega) with h8 | h8
      · omega
      · exact h8
    refine nX5_fast (bX5_fast_0 (kX5_isThing hw (by omega) (fun c' => bX5_fast_5 (by omega) (fun _ => bX5_fast_11 (kX5_look hB hI.2.2.1 (Or.inl rfl) (fun Z2 f2 g2 hM2 hK2 hR2 h17 => bX5_fast_18 (by omega) (by omega) (by rw [h39 Z2 hK2]; omega) (fun e => bX5_fast_31 ⟨_, rfl, ?_, b, Z2, Y, rfl, inv_tk hI hC f2 g2⟩) (fun e => bX5_fast_27 ⟨_, rfl, ?_, b, Z2, Y, rfl, inv_tk hI hC f2 g2⟩)))) (fun e => by omega)) (fun c' => by omega)))
    · rw [h39 Z2 hK2] at e; omega
    · rw [h39 Z2 hK2] at e; omega
  refine nX4_fast (bX4_fast_0 (kX4_isThing hw (by omega) (fun c => bX4_fast_5 (by omega) (fun _ => bX4_fast_11 (kX4_freshSurvey hC h (fun Z1 hI hS f1 e1 => ?_))) (fun e => by omega)) (fun c => bX4_fast_5 (by omega) (fun e => absurd rfl e) (fun _ => bX4_fast_8 ⟨_, rfl, Z, Y, rfl, by omega, ?_⟩))))
  · have h01 : Z1 17 w.toNat = 0 ∨ Z1 17 w.toNat = 1 := by
      obtain ⟨f, g, hK, hR, h15⟩ := hS
      have hG := svG hB f g
      rw [(hK.2.2.2.2.1 w.toNat (by omega)).2]
      rcases hR.2.2.2 w.toNat (by omega) with h8 | h8
      · omega
      · exact h8
    exact bX4_fast_15 (by omega) (by omega) (by omega) (fun e => bX4_fast_27 ⟨_, rfl, Z1, Y, rfl, by omega, key Z1 0 c hI hS e.symm⟩) (fun e => bX4_fast_23 ⟨_, rfl, Z1, Y, rfl, by omega, key Z1 1 c hI hS (by omega)⟩)
  · exact nX5_fast (bX5_fast_0 (kX5_isThing hw (by omega) (fun c' => by omega) (fun c' => bX5_fast_5 (by omega) (fun e => absurd rfl e) (fun _ => bX5_fast_8 ⟨_, rfl, rfl, b, Z, Y, rfl, h⟩))))
theorem kX2_greatestWith {Ki : Int → jj_Hp → Prop} {t c : Nat} (ht : t < 4) (hc : c < 10) (k : Ki (Z 18 (t * 10 + c)) (jj_h Z Y S)) : jj_Ci d mX2_greatestWith [.ref 15, iv (t : Int), iv (c : Int)] (jj_h Z Y S) Ki := by
  refine nX2_greatestWith (bX2_greatestWith_0 (by omega) (by omega) ⟨_, rfl, ?_⟩)
  rw [show ((t : Int) * 10 + (c : Int)).toNat = t * 10 + c by omega]; exact k
theorem op_must (hC : CNf CN) (h : Inv SV CN b Z Y) {w c : Int} (hw : i32 w) (hc : i32 c) : PairI SV CN (d + 8) mX4_must mX5_must [.ref 0, iv w, iv c] [.ref 27, iv w, iv c] Z Y S := by
  have hB := h.1
  obtain ⟨n1, n2, n3, n4, n5, n6⟩ := h.nx
  have bad : ¬ (0 ≤ w ∧ w < Z 1 0 ∧ 0 ≤ c ∧ c ≤ bT b w.toNat) → jj_Ci (d + 8) mX5_must [.ref 27, iv w, iv c] (jj_h Z Y S) (fun y h2 => y = -1000001 ∧ ∃ b' Z' Y', h2 = jj_h Z' Y' S ∧ Inv SV CN b' Z' Y') := by
    intro hn
    refine nX5_must (bX5_must_0 (kX5_isThing hw (by omega) (fun c' => bX5_must_5 (by omega) (fun e => by omega) (fun _ => ?_)) (fun c' => bX5_must_5 (by omega) (fun _ => bX5_must_24 ⟨_, rfl, rfl, b, Z, Y, rfl, h⟩) (fun e => absurd rfl e))))
    have e29 := (h.2.2.1.2.2.1 w.toNat (by omega)).2
    have hT := hB.2.2.1 w.toNat (by omega)
    refine bX5_must_8 hc (by omega) (by omega) (by omega) (kX5_in (by omega) (by omega) (by omega) (fun c2 => by omega) (fun c2 => bX5_must_21 (by omega) (fun e => absurd rfl e) (fun _ => bX5_must_24 ⟨_, rfl, rfl, b, Z, Y, rfl, h⟩)))
  refine nX4_must (bX4_must_0 (kX4_isThing hw (by omega) (fun c1 => bX4_must_5 (by omega) (fun e => by omega) (fun _ => ?_)) (fun c1 => bX4_must_5 (by omega) (fun _ => bX4_must_25 ⟨_, rfl, Z, Y, rfl, by omega, bad (by omega)⟩) (fun e => absurd rfl e))))
  have e3 := (h.2.1.2.2.1 w.toNat (by omega)).2
  have hT := hB.2.2.1 w.toNat (by omega)
  refine bX4_must_8 hc (fun e => bX4_must_25 ⟨_, rfl, Z, Y, rfl, by omega, bad (by omega)⟩) (fun e => bX4_must_12 (by omega) (by omega) hc (by omega) (fun e2 => bX4_must_28 ?_) (fun e2 => bX4_must_25 ⟨_, rfl, Z, Y, rfl, by omega, bad (by omega)⟩))
  rw [e3] at e2
  obtain ⟨t, et⟩ := Int.eq_ofNat_of_zero_le (show 0 ≤ w by omega)
  obtain ⟨u, eu⟩ := Int.eq_ofNat_of_zero_le (show 0 ≤ c by omega)
  subst et; subst eu
  rw [Int.toNat_natCast] at e2 hT
  have hx : ∀ Z1 : Nat → Nat → Int, SV b Z1 → ∃ f g, Z1 18 (t * 10 + u) = (svF b f g).2.2.2.2.2.1 t u ∧ SR b (svF b f g) := by
    rintro Z1 ⟨f, g, hK, hR, h15⟩
    exact ⟨f, g, hK.2.2.2.2.2.1 t u (by omega) (by omega), hR⟩
  refine kX4_freshSurvey hC h (fun Z1 hI hS f1 e1 => bX4_must_32 (kX2_greatestWith (by omega) (by omega) (bX4_must_37 ⟨_, rfl, Z1, Y, rfl, ?_, ?_⟩)))
  · obtain ⟨f, g, h1, hR⟩ := hx Z1 hS
    have := hR.2.1 t u (by omega) (by omega)
    rw [h1]; omega
  · obtain ⟨m1, m2, m3, m4, m5, m6⟩ := hI.nx
    have e29 := (hI.2.2.1.2.2.1 t (by omega)).2
    refine nX5_must (bX5_must_0 (kX5_isThing hw (by omega) (fun c' => bX5_must_5 (by omega) (fun e => by omega) (fun _ => ?_)) (fun c' => by omega)))
    refine bX5_must_8 hc (by omega) (by omega) (by rw [Int.toNat_natCast]; omega) (kX5_in (by omega) (by omega) (by rw [Int.toNat_natCast]; omega) (fun c2 => bX5_must_21 (by omega) (fun _ => bX5_must_27 ?_) (fun e => by omega)) (fun c2 => by rw [Int.toNat_natCast] at c2; omega))
    refine kX5_look hB hI.2.2.1 (Or.inr ⟨by omega, by omega, by omega, by rw [Int.toNat_natCast]; exact e2⟩) (fun Z2 f2 g2 hM2 hK2 hR2 h17 => bX5_must_33 ⟨_, rfl, ?_, b, Z2, Y, rfl, inv_tk hI hC f2 g2⟩)
    obtain ⟨f, g, h1, hR⟩ := hx Z1 hS
    rw [h1, hK2.1]
    exact (wc_held hB f g rfl (by omega) e2).symm
end OP4

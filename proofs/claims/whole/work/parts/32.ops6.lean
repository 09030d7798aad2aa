/-! rank, worth, broken, told: both calls agree -/
def ahc (w : Nat → Int) (r : Nat) : Nat → Nat → Int → Int
  | _, 0, a => a
  | q, n + 1, a => ahc w r (q + 1) n (if w r < w q ∨ (w q = w r ∧ q < r) then a + 1 else a)
theorem ahc_in (w : Nat → Int) (r : Nat) : ∀ (n q : Nat) (a : Int), a ≤ ahc w r q n a ∧ ahc w r q n a ≤ a + n
  | 0, q, a => by show a ≤ a ∧ a ≤ a + 0; omega
  | n + 1, q, a => by
    have := ahc_in w r n (q + 1) (if w r < w q ∨ (w q = w r ∧ q < r) then a + 1 else a)
    show a ≤ ahc w r (q + 1) n (if w r < w q ∨ (w q = w r ∧ q < r) then a + 1 else a) ∧ ahc w r (q + 1) n (if w r < w q ∨ (w q = w r ∧ q < r) then a + 1 else a) ≤ a + ((n + 1 : Nat) : Int)
    split at this <;> rename_i h
    · rw [if_pos h]; omega
    · rw [if_neg h]; omega
def rkn (w : Nat → Int) (k : Int) (m : Nat) : Nat → Nat → Int
  | _, 0 => -1000001
  | r, n + 1 => if ahc w r 0 m 0 = k then (r : Int) else rkn w k m (r + 1) n
theorem rkn_in (w : Nat → Int) (k : Int) (m : Nat) : ∀ (n r : Nat), rkn w k m r n = -1000001 ∨ (0 ≤ rkn w k m r n ∧ rkn w k m r n < ((r + n : Nat) : Int))
  | 0, r => Or.inl rfl
  | n + 1, r => by
    have := rkn_in w k m n (r + 1)
    show (if ahc w r 0 m 0 = k then (r : Int) else rkn w k m (r + 1) n) = -1000001 ∨ (0 ≤ (if ahc w r 0 m 0 = k then (r : Int) else rkn w k m (r + 1) n) ∧ (if ahc w r 0 m 0 = k then (r : Int) else rkn w k m (r + 1) n) < ((r + (n + 1) : Nat) : Int))
    split
    · right; omega
    · omega
theorem ahc_congr {w w' : Nat → Int} {r m : Nat} (h : ∀ q, q < m → w q = w' q) (hr : r < m) : ∀ (n q : Nat) (a : Int), q + n = m → ahc w r q n a = ahc w' r q n a
  | 0, q, a, _ => rfl
  | n + 1, q, a, hq => by
    show ahc w r (q + 1) n _ = ahc w' r (q + 1) n _
    rw [h r hr, h q (by omega), ahc_congr h hr n (q + 1) _ (by omega)]
section OP6
variable {CN : Bk → (Nat → Nat → Int) → (Nat → Nat → Int) → Prop} {b : Bk} {Z Y : Nat → Nat → Int} {S : Nat × (Nat → Int32)} {d : Nat} {Q : Option Value → jj_Hp → Prop} {Ki : Int → jj_Hp → Prop}
theorem wt_in {s : SvT} {r : Nat} (hR : SR b s) (hr : r < bM b) : 0 ≤ wt s r ∧ wt s r ≤ 1004000 := by
  have h1 := hR.2.2.1 r hr
  have h2 : -1000000 ≤ s.1 ∧ s.1 ≤ 4000 := by
    rcases hR.1 with h | h <;> omega
  unfold wt
  omega
theorem lX2_rulesAhead {r : Nat} {s : SvT} (hr : r < bM b) (h6 : bM b ≤ 6) (hK : SK b Z s) (hR : SR b s) : ∀ (n q : Nat) (a : Int) (v6 : Value), q + n = bM b → (∀ x, x = ahc (wt s) r q n a → Q (some (iv x)) (jj_h Z Y S)) → jj_Ex (d + 2) mX2_rulesAhead 12 [.ref 15, iv (r : Int), iv ((bM b : Nat) : Int), iv (wt s r), iv a, iv (q : Int), v6] [] (jj_h Z Y S) Q := by
  have hwr := wt_in hR hr
  intro n
  induction n with
  | zero =>
    intro q a v6 hq hQ
    exact bX2_rulesAhead_12 (by omega) (by omega) (fun _ => bX2_rulesAhead_53 (hQ a rfl)) (fun e => by omega)
  | succ n ih =>
    intro q a v6 hq hQ
    have hwq := wt_in hR (r := q) (by omega)
    refine bX2_rulesAhead_12 (by omega) (by omega) (fun e => by omega) (fun _ => bX2_rulesAhead_18 (kX2_gainWithout (by omega) h6 hK hR (bX2_rulesAhead_24 (by omega) (by omega) (fun e1 => bX2_rulesAhead_44 ?_) (fun e1 => bX2_rulesAhead_32 (by omega) (by omega) (fun e2 => bX2_rulesAhead_47 ?_) (fun e2 => bX2_rulesAhead_38 (by omega) (by omega) (fun e3 => bX2_rulesAhead_47 ?_) (fun e3 => bX2_rulesAhead_44 ?_))))))
    · refine ih (q + 1) _ _ (by omega) (fun x hx => hQ x ?_)
      rw [hx]; show _ = ahc (wt s) r (q + 1) n _; rw [if_pos (Or.inl e1)]
    · refine ih (q + 1) _ _ (by omega) (fun x hx => hQ x ?_)
      rw [hx]; show _ = ahc (wt s) r (q + 1) n _; rw [if_neg (by omega)]
    · refine ih (q + 1) _ _ (by omega) (fun x hx => hQ x ?_)
      rw [hx]; show _ = ahc (wt s) r (q + 1) n _; rw [if_neg (by omega)]
    · refine ih (q + 1) _ _ (by omega) (fun x hx => hQ x ?_)
      rw [hx]; show _ = ahc (wt s) r (q + 1) n _; rw [if_pos (by omega)]
theorem kX2_rulesAhead {r : Nat} {s : SvT} (hr : r < bM b) (h6 : bM b ≤ 6) (hK : SK b Z s) (hR : SR b s) (k : Ki (ahc (wt s) r 0 (bM b) 0) (jj_h Z Y S)) : jj_Ci (d + 2) mX2_rulesAhead [.ref 15, iv (r : Int), iv ((bM b : Nat) : Int)] (jj_h Z Y S) Ki :=
  nX2_rulesAhead (bX2_rulesAhead_0 (kX2_gainWithout hr h6 hK hR (bX2_rulesAhead_5 (lX2_rulesAhead hr h6 hK hR (bM b) 0 0 _ (by omega) (fun x hx => ⟨_, rfl, by rw [hx]; exact k⟩)))))
theorem lX4_rank {w : Int} {s : SvT} (hw : i32 w) (hB : BR b) (hX : XB Z b) (hK : SK b Z s) (hR : SR b s) : ∀ (n r : Nat), r + n = bM b → Q (some (iv (rkn (wt s) w (bM b) r n))) (jj_h Z Y S) → jj_Ex (d + 3) mX4_rank 18 [.ref 0, iv w, .ref 15, iv (r : Int)] [] (jj_h Z Y S) Q := by
  have h6 := hB.2.1
  have x2 := hX.2.1
  intro n
  induction n with
  | zero =>
    intro r hr hQ
    exact bX4_rank_18 (by omega) (by omega) (fun _ => bX4_rank_53 hQ) (fun e => by omega)
  | succ n ih =>
    intro r hr hQ
    have ha := ahc_in (wt s) r (bM b) 0 0
    refine bX4_rank_18 (by omega) (by omega) (fun e => by omega) (fun _ => bX4_rank_29 ?_)
    rw [x2]
    refine kX2_rulesAhead (by omega) h6 hK hR (bX4_rank_41 (by omega) hw (fun e => bX4_rank_47 (ih (r + 1) (by omega) ?_)) (fun e => bX4_rank_45 ?_))
    · rw [show rkn (wt s) w (bM b) r (n + 1) = rkn (wt s) w (bM b) (r + 1) n from if_neg e] at hQ; exact hQ
    · rw [show rkn (wt s) w (bM b) r (n + 1) = (r : Int) from if_pos e] at hQ; exact hQ
theorem lX5_rank13 {w : Int} {v3 v4 : Value} (f g : Nat → Int) (hB : BR b) {Z0 : Nat → Nat → Int} : ∀ (n r : Nat) (Z : Nat → Nat → Int), r + n = bM b → MB Z b → fr (fun a => tkc a ∧ ¬ a = 40) Z0 Z → m27 Z0 Z → (∀ q, q < r → Z 40 q = wt (svF b f g) q) → (∀ Z', MB Z' b → fr (fun a => tkc a ∧ ¬ a = 40) Z0 Z' → m27 Z0 Z' → (∀ q, q < bM b → Z' 40 q = wt (svF b f g) q) → jj_Ex (d + 5) mX5_rank 38 [.ref 27, iv w, iv ((bM b : Nat) : Int), v3, v4] [] (jj_h Z' Y S) Q) → jj_Ex (d + 5) mX5_rank 13 [.ref 27, iv w, iv (r : Int), v3, v4] [] (jj_h Z Y S) Q := by
  have h6 := hB.2.1
  intro n
  induction n with
  | zero =>
    intro r Z hr hM f0 g0 hq hQ
    have m2 := hM.2.1
    refine bX5_rank_13 (by omega) (by omega) (fun _ => ?_) (fun e => by omega)
    have := hQ Z hM f0 g0 (fun q h => hq q (by omega))
    rw [show bM b = r by omega] at this
    exact this
  | succ n ih =>
    intro r Z hr hM f0 g0 hq hQ
    have m2 := hM.2.1
    refine bX5_rank_13 (by omega) (by omega) (fun e => by omega) (fun _ => bX5_rank_21 (kX5_weight f g hB hM (by omega) (fun Z1 f1 g1 => bX5_rank_31 (by omega) (by omega) ?_)))
    rw [Int.toNat_natCast]
    have f2 : fr (fun a => tkc a ∧ ¬ a = 40) Z (zu Z1 40 r (wt (svF b f g) r)) := fun a ha j => by rw [zu_ne ha.2, f1 a ha.1]
    have g2 : m27 Z (zu Z1 40 r (wt (svF b f g) r)) := fun j hj => by rw [zu_ne (by omega), g1 j hj]
    have hM1 := mb_tk hM f1 g1
    refine ih (r + 1) _ (by omega) (hM1.fr (fun a ha j => by unfold mbc at ha; rw [zu_ne (by omega)]) (by rw [zu_ne (by omega)]) (by rw [zu_ne (by omega)])) (f0.trans f2) (g0.trans g2) (fun q h => ?_) hQ
    by_cases e : q = r
    · subst e; rw [zu_at]
    · rw [zu_nk e, f1 40 (by unfold tkc; omega)]; exact hq q (by omega)
theorem lX5_rank53 {w : Int} {r : Nat} {wf : Nat → Int} (hM : MB Z b) (h6 : bM b ≤ 6) (hr : r < bM b) (hw : ∀ q, q < bM b → Z 40 q = wf q) (hwr : ∀ q, q < bM b → i32 (wf q)) : ∀ (n q : Nat) (a : Int), q + n = bM b → (∀ x, x = ahc wf r q n a → jj_Ex d mX5_rank 114 [.ref 27, iv w, iv (r : Int), iv x, iv ((bM b : Nat) : Int)] [] (jj_h Z Y S) Q) → jj_Ex d mX5_rank 53 [.ref 27, iv w, iv (r : Int), iv a, iv (q : Int)] [] (jj_h Z Y S) Q := by
  have m2 := hM.2.1
  have e2 : ((r : Int)).toNat = r := Int.toNat_natCast r
  have h1 := hw r hr
  have h2 := hwr r hr
  intro n
  induction n with
  | zero =>
    intro q a hq hQ
    refine bX5_rank_53 (by omega) (by omega) (fun _ => ?_) (fun e => by omega)
    have := hQ a rfl
    rw [show bM b = q by omega] at this
    exact this
  | succ n ih =>
    intro q a hq hQ
    have e3 : ((q : Int)).toNat = q := Int.toNat_natCast q
    have h3 := hw q (by omega)
    have h4 := hwr q (by omega)
    refine bX5_rank_53 (by omega) (by omega) (fun e => by omega) (fun _ => bX5_rank_62 (by omega) (by omega) (by omega) (by omega) (by rw [e3, h3]; exact h4) (by rw [e2, h1]; exact h2) (fun e => bX5_rank_101 ?_) (fun e => bX5_rank_79 (by omega) (by omega) (by omega) (by omega) (by rw [e3, h3]; exact h4) (by rw [e2, h1]; exact h2) (fun e4 => bX5_rank_105 ?_) (fun e4 => bX5_rank_95 (by omega) (by omega) (fun e5 => bX5_rank_105 ?_) (fun e5 => bX5_rank_101 ?_))))
    all_goals rw [e2, e3, h1, h3] at e
    · refine ih (q + 1) _ (by omega) (fun x hx => hQ x ?_)
      rw [hx]; show _ = ahc wf r (q + 1) n _; rw [if_pos (Or.inl e)]
    · rw [e2, e3, h1, h3] at e4
      rw [Int.add_zero]
      refine ih (q + 1) _ (by omega) (fun x hx => hQ x ?_)
      rw [hx]; show _ = ahc wf r (q + 1) n _; rw [if_neg (by omega)]
    · rw [e2, e3, h1, h3] at e4
      rw [Int.add_zero]
      refine ih (q + 1) _ (by omega) (fun x hx => hQ x ?_)
      rw [hx]; show _ = ahc wf r (q + 1) n _; rw [if_neg (by omega)]
    · rw [e2, e3, h1, h3] at e4
      refine ih (q + 1) _ (by omega) (fun x hx => hQ x ?_)
      rw [hx]; show _ = ahc wf r (q + 1) n _; rw [if_pos (by omega)]
theorem lX5_rank40 {w : Int} {wf : Nat → Int} (hwi : i32 w) (hM : MB Z b) (h6 : bM b ≤ 6) (hw : ∀ q, q < bM b → Z 40 q = wf q) (hwr : ∀ q, q < bM b → i32 (wf q)) : ∀ (n r : Nat) (v3 v4 : Value), r + n = bM b → Q (some (iv (rkn wf w (bM b) r n))) (jj_h Z Y S) → jj_Ex d mX5_rank 40 [.ref 27, iv w, iv (r : Int), v3, v4] [] (jj_h Z Y S) Q := by
  have m2 := hM.2.1
  intro n
  induction n with
  | zero =>
    intro r v3 v4 hr hQ
    exact bX5_rank_40 (by omega) (by omega) (fun _ => bX5_rank_127 hQ) (fun e => by omega)
  | succ n ih =>
    intro r v3 v4 hr hQ
    have ha := ahc_in wf r (bM b) 0 0
    refine bX5_rank_40 (by omega) (by omega) (fun e => by omega) (fun _ => bX5_rank_48 (lX5_rank53 hM h6 (by omega) hw hwr (bM b) 0 0 (by omega) (fun x hx => ?_)))
    rw [← hx] at ha
    refine bX5_rank_114 (by omega) hwi (fun e => bX5_rank_121 (ih (r + 1) _ _ (by omega) ?_)) (fun e => bX5_rank_119 ?_)
    · rw [show rkn wf w (bM b) r (n + 1) = rkn wf w (bM b) (r + 1) n from if_neg (by rw [← hx]; exact e)] at hQ; exact hQ
    · rw [show rkn wf w (bM b) r (n + 1) = (r : Int) from if_pos (by rw [← hx]; exact e)] at hQ; exact hQ
theorem op_rank (hC : CNf CN) (h : Inv SV CN b Z Y) {w : Int} (hw : i32 w) : PairI SV CN (d + 8) mX4_rank mX5_rank [.ref 0, iv w] [.ref 27, iv w] Z Y S := by
  have hB := h.1
  obtain ⟨n1, n2, n3, n4, n5, n6⟩ := h.nx
  refine nX4_rank (bX4_rank_0 (kX4_isRule hw (by omega) (fun c => bX4_rank_5 (by omega) (fun _ => bX4_rank_11 ?_) (fun e => by omega)) (fun c => bX4_rank_5 (by omega) (fun e => absurd rfl e) (fun _ => bX4_rank_8 ⟨_, rfl, Z, Y, rfl, by omega, ?_⟩))))
  · refine kX4_freshSurvey hC h (fun Z1 hI hS f1 e1 => ?_)
    obtain ⟨f, g, hK, hR, h15⟩ := hS
    obtain ⟨m1, m2, m3, m4, m5, m6⟩ := hI.nx
    have hri := rkn_in (wt (svF b f g)) w (bM b) (bM b) 0
    have i1 : ∀ q, q < bM b → i32 (wt (svF b f g) q) := fun q hq => by have := wt_in hR hq; omega
    refine bX4_rank_15 (lX4_rank hw hB hI.2.1 hK hR (bM b) 0 (by omega) ⟨_, rfl, Z1, Y, rfl, by omega, ?_⟩)
    refine nX5_rank (bX5_rank_0 (kX5_isRule hw (by omega) (fun c' => bX5_rank_5 (by omega) (fun _ => bX5_rank_11 (lX5_rank13 (d := d + 3) (Z0 := Z1) f g hB (bM b) 0 Z1 (by omega) hI.2.2.1 fr.rf (fun _ _ => rfl) (fun q hq => by omega) (fun Z2 hM2 f2 g2 hw2 => bX5_rank_38 (lX5_rank40 hw hM2 m6 hw2 i1 (bM b) 0 _ _ (by omega) ⟨_, rfl, rfl, b, Z2, Y, rfl, ?_⟩)))) (fun e => by omega)) (fun c' => by omega)))
    exact hI.keep hC (f2.mono (fun a ha => by unfold kpc at ha; unfold tkc; omega)) (g2 0 (by omega)) (g2 3 (by omega)) (fun _ _ _ _ => rfl)
  · exact nX5_rank (bX5_rank_0 (kX5_isRule hw (by omega) (fun c' => by omega) (fun c' => bX5_rank_5 (by omega) (fun e => absurd rfl e) (fun _ => bX5_rank_8 ⟨_, rfl, rfl, b, Z, Y, rfl, h⟩))))
theorem op_worth (hC : CNf CN) (h : Inv SV CN b Z Y) : PairI SV CN (d + 8) mX4_worth mX5_worth [.ref 0] [.ref 27] Z Y S := by
  have hB := h.1
  have h4 := hB.1
  have hP := h.2.2.2.1
  refine nX4_worth (bX4_worth_0 (kX3_begin hB h.2.1 (fun Z1 f1 hW1 => bX4_worth_7 (jj_Cv.deep (d := d + 1) (by omega) (kX3_goTo hB ?_ bd_0 hW1 (fun Z2 p f2 hp hW2 => bX4_worth_18 ⟨_, rfl, Z2, Y, rfl, ?_, ?_⟩))))))
  · intro t ht
    have := hP t (by omega)
    rw [f1 26 (by unfold wkc; omega)]; omega
  · have hpd : bd (bN b) p := fun t ht => by
      have := hP t (by omega)
      rw [hp t ht, f1 26 (by unfold wkc; omega)]; omega
    have := vl_bound hB hpd
    rw [hW2.2.2.2]
    show i32 (vlp b p)
    omega
  · have hI2 : Inv SV CN b Z2 Y := wk_inv h hC (f1.trans f2)
    refine nX5_worth (bX5_worth_0 (kX5_valueOf hB hI2.2.2.1 rfl (bX5_worth_8 ⟨_, rfl, ?_, b, Z2, Y, rfl, hI2⟩)))
    rw [hW2.2.2.2]
    show vlp b (Z2 36) = vlp b p
    refine vlp_congr (fun t ht => ?_)
    rw [hp t ht, f1 26 (by unfold wkc; omega), (hP t (by omega)).1, f2 36 (by unfold wkc; omega), f1 36 (by unfold wkc; omega)]
/-- the first THING of which more are told than there may be -/
def tmo (b : Bk) (p : Nat → Int) : Nat → Nat → Option Nat
  | _, 0 => none
  | t, n + 1 => if p t ≤ bT b t then tmo b p (t + 1) n else some t
theorem lX5_broken2 (hB : BR b) (hM : MB Z b) (hp : bd (bN b) (Z 36)) : ∀ (n r : Nat), r + n = bM b → Q (some (iv (fo b (lim0 b) (Z 36) r n))) (jj_h Z Y S) → jj_Ex (d + 1) mX5_broken 38 [.ref 27, iv (r : Int)] [] (jj_h Z Y S) Q := by
  have hm := hB.2.1
  have m2 := hM.2.1
  intro n
  induction n with
  | zero =>
    intro r hr hQ
    exact bX5_broken_38 (by omega) (by omega) (fun _ => bX5_broken_75 hQ) (fun e => by omega)
  | succ n ih =>
    intro r hr hQ
    have e2 : ((r : Int)).toNat = r := by omega
    have hO := (hB.2.2.2.1 r (by omega)).2.2.2.2.1
    have h34 := (hM.2.2.2.1 r (by omega)).2.2.1
    have nx : ldp b (Z 36) r ≤ lim0 b r → jj_Ex (d + 1) mX5_broken 69 [.ref 27, iv (r : Int)] [] (jj_h Z Y S) Q := fun hle => bX5_broken_69 (ih (r + 1) (by omega) (by
      rw [show fo b (lim0 b) (Z 36) r (n + 1) = fo b (lim0 b) (Z 36) (r + 1) n from if_neg (by omega)] at hQ; exact hQ))
    refine bX5_broken_38 (by omega) (by omega) (fun e => by omega) (fun _ => bX5_broken_46 (by omega) (by omega) (by rw [e2]; omega) (fun h2 => nx ?_) (fun h2 => bX5_broken_55 (kX5_isAs hB hM (by omega) rfl hp (fun h3 => bX5_broken_64 (by omega) (fun h4 => nx ?_) (fun h4 => by omega)) (fun h3 => bX5_broken_64 (by omega) (fun h4 => by omega) (fun h4 => bX5_broken_67 ?_)))))
    · rw [e2] at h2
      unfold lim0
      rw [if_pos (by omega)]
      have := ldp_bound hB hp (r := r) (by omega)
      omega
    · rw [e2] at h2
      unfold lim0
      rw [if_neg (by omega)]; exact h3
    · rw [e2] at h2
      rw [show fo b (lim0 b) (Z 36) r (n + 1) = (r : Int) from if_pos (by unfold lim0; rw [if_neg (by omega)]; omega)] at hQ
      exact hQ
theorem lX5_broken1 (hB : BR b) (hM : MB Z b) (hp : bd (bN b) (Z 36)) : ∀ (n t : Nat), t + n = bN b → (∀ u, tmo b (Z 36) t n = some u → Q (some (iv (100 + (u : Int)))) (jj_h Z Y S)) → (tmo b (Z 36) t n = none → Q (some (iv (fo b (lim0 b) (Z 36) 0 (bM b)))) (jj_h Z Y S)) → jj_Ex (d + 1) mX5_broken 2 [.ref 27, iv (t : Int)] [] (jj_h Z Y S) Q := by
  have hN := hB.1
  have m1 := hM.1
  intro n
  induction n with
  | zero =>
    intro t ht k1 k0
    exact bX5_broken_2 (by omega) (by omega) (fun _ => bX5_broken_36 (lX5_broken2 hB hM hp (bM b) 0 (by omega) (k0 rfl))) (fun e => by omega)
  | succ n ih =>
    intro t ht k1 k0
    have e2 : ((t : Int)).toNat = t := by omega
    have h29 := (hM.2.2.1 t (by omega)).2
    have hT := (hB.2.2.1 t (by omega)).2.2
    have hpt := hp t (by omega)
    refine bX5_broken_2 (by omega) (by omega) (fun e => by omega) (fun _ => bX5_broken_10 (by omega) (by omega) (by omega) (by omega) (by rw [e2]; omega) (by rw [e2]; omega) (fun h2 => bX5_broken_30 (ih (t + 1) (by omega) ?_ ?_)) (fun h2 => bX5_broken_25 (k1 t ?_)))
    all_goals rw [e2, h29] at h2
    · intro u hu; exact k1 u (by show (if Z 36 t ≤ bT b t then _ else _) = _; rw [if_pos h2]; exact hu)
    · intro hu; exact k0 (by show (if Z 36 t ≤ bT b t then _ else _) = _; rw [if_pos h2]; exact hu)
    · show (if Z 36 t ≤ bT b t then _ else _) = _; rw [if_neg h2]
theorem lX4_broken1 (hB : BR b) (hX : XB Z b) (hp : bd (bN b) (Z 26)) : ∀ (n t : Nat), t + n = bN b → (∀ u, tmo b (Z 26) t n = some u → Q (some (iv (100 + (u : Int)))) (jj_h Z Y S)) → (tmo b (Z 26) t n = none → jj_Ex d mX4_broken 42 [.ref 0, iv ((bN b : Nat) : Int)] [] (jj_h Z Y S) Q) → jj_Ex d mX4_broken 2 [.ref 0, iv (t : Int)] [] (jj_h Z Y S) Q := by
  have hN := hB.1
  have m1 := hX.1
  intro n
  induction n with
  | zero =>
    intro t ht k1 k0
    refine bX4_broken_2 (by omega) (by omega) (fun _ => ?_) (fun e => by omega)
    have := k0 rfl
    rw [show bN b = t by omega] at this
    exact this
  | succ n ih =>
    intro t ht k1 k0
    have e2 : ((t : Int)).toNat = t := by omega
    have h29 := (hX.2.2.1 t (by omega)).2
    have hT := (hB.2.2.1 t (by omega)).2.2
    have hpt := hp t (by omega)
    refine bX4_broken_2 (by omega) (by omega) (fun e => by omega) (fun _ => bX4_broken_13 (by omega) (by omega) (by omega) (by omega) (by rw [e2]; omega) (by rw [e2]; omega) (fun h2 => bX4_broken_36 (ih (t + 1) (by omega) ?_ ?_)) (fun h2 => bX4_broken_31 (k1 t ?_)))
    all_goals rw [e2, h29] at h2
    · intro u hu; exact k1 u (by show (if Z 26 t ≤ bT b t then _ else _) = _; rw [if_pos h2]; exact hu)
    · intro hu; exact k0 (by show (if Z 26 t ≤ bT b t then _ else _) = _; rw [if_pos h2]; exact hu)
    · show (if Z 26 t ≤ bT b t then _ else _) = _; rw [if_neg h2]
theorem tmo_congr {p q : Nat → Int} (h : ∀ t, t < bN b → p t = q t) : ∀ (n t : Nat), t + n = bN b → tmo b p t n = tmo b q t n
  | 0, t, _ => rfl
  | n + 1, t, ht => by
    show (if p t ≤ bT b t then tmo b p (t + 1) n else some t) = (if q t ≤ bT b t then tmo b q (t + 1) n else some t)
    rw [h t (by omega), tmo_congr h n (t + 1) (by omega)]
theorem tmo_in {p : Nat → Int} : ∀ (n t u : Nat), tmo b p t n = some u → u < t + n
  | 0, t, u, h => by cases h
  | n + 1, t, u, h => by
    have h' : (if p t ≤ bT b t then tmo b p (t + 1) n else some t) = some u := h
    split at h'
    · have := tmo_in n (t + 1) u h'; omega
    · cases h'; omega
theorem fo_congr {lim p q : Nat → Int} (hB : BR b) (h : ∀ t, t < bN b → p t = q t) : ∀ (n r : Nat), r + n = bM b → fo b lim p r n = fo b lim q r n
  | 0, r, _ => rfl
  | n + 1, r, hr => by
    show (if lim r < ldp b p r then (r : Int) else fo b lim p (r + 1) n) = (if lim r < ldp b q r then (r : Int) else fo b lim q (r + 1) n)
    rw [ldp_congr hB h (by omega), fo_congr hB h n (r + 1) (by omega)]
theorem op_broken (hC : CNf CN) (h : Inv SV CN b Z Y) : PairI SV CN (d + 8) mX4_broken mX5_broken [.ref 0] [.ref 27] Z Y S := by
  have hB := h.1
  have h4 := hB.1
  have h6 := hB.2.1
  have hP := h.2.2.2.1
  have hp26 : bd (bN b) (Z 26) := fun t ht => by have := hP t (by omega); omega
  have hp36 : bd (bN b) (Z 36) := fun t ht => by have := hP t (by omega); omega
  have e36 : ∀ t, t < bN b → Z 26 t = Z 36 t := fun t ht => (hP t (by omega)).1
  have hl : ∀ r, r < bM b → i32 (lim0 b r) := fun r hr => by have := i_lim hB hr; omega
  refine nX4_broken (bX4_broken_0 (lX4_broken1 hB h.2.1 hp26 (bN b) 0 (by omega) (fun u hu => ⟨_, rfl, Z, Y, rfl, ?_, ?_⟩) (fun hu => bX4_broken_42 (kX3_begin hB h.2.1 (fun Z1 f1 hW1 => bX4_broken_49 (jj_Cv.deep (d := d + 1) (by omega) (kX3_goTo hB ?_ bd_0 hW1 (fun Z2 p f2 hp hW2 => bX4_broken_60 ?_))))))))
  · have := tmo_in _ _ _ hu
    omega
  · rw [tmo_congr e36 _ _ (by omega)] at hu
    refine nX5_broken (bX5_broken_0 (lX5_broken1 (d := d + 7) hB h.2.2.1 hp36 (bN b) 0 (by omega) (fun u' hu' => ⟨_, rfl, ?_, b, Z, Y, rfl, h⟩) (fun hn => by rw [hn] at hu; cases hu)))
    rw [hu] at hu'; cases hu'; rfl
  · intro t ht
    have := hP t (by omega)
    rw [f1 26 (by unfold wkc; omega)]; omega
  · have ep : ∀ t, t < bN b → p t = Z 36 t := fun t ht => by rw [hp t ht, f1 26 (by unfold wkc; omega)]; exact e36 t ht
    have hpd : bd (bN b) p := fun t ht => by rw [ep t ht]; exact hp36 t ht
    have hI2 : Inv SV CN b Z2 Y := wk_inv h hC (f1.trans f2)
    refine jj_Ci.deep (d := d + 2) (by omega) (kX3_firstOver (f := 0) hB hpd hl (by omega) hW2 (bX4_broken_68 ⟨_, rfl, Z2, Y, rfl, ?_, ?_⟩))
    · have := fo_in b (lim0 b) p (bM b - 0) 0
      omega
    · have e2 : Z2 36 = Z 36 := by
        funext t; rw [f2 36 (by unfold wkc; omega), f1 36 (by unfold wkc; omega)]
      rw [tmo_congr e36 _ _ (by omega)] at hu
      refine nX5_broken (bX5_broken_0 (lX5_broken1 (d := d + 7) hB hI2.2.2.1 (by rw [e2]; exact hp36) (bN b) 0 (by omega) (fun u' hu' => by rw [e2, hu] at hu'; cases hu') (fun hn => ⟨_, rfl, ?_, b, Z2, Y, rfl, hI2⟩)))
      rw [e2, Nat.sub_zero]
      exact (fo_congr hB ep (bM b) 0 (by omega)).symm
end OP6

/-! span: both calls agree -/
theorem mul_wc {w c : Int} (hw : -99 ≤ w ∧ w ≤ 99) (hc : 0 ≤ c ∧ c ≤ 9) : -891 ≤ w * c ∧ w * c ≤ 891 := by
  have := mul_bound (x := c) (y := w) (cx := 9) (cy := 99) hc hw (by omega)
  rw [Int.mul_comm w c]; omega
section SPN
variable {CN : Bk → (Nat → Nat → Int) → (Nat → Nat → Int) → Prop} {b : Bk} {Z Y : Nat → Nat → Int} {S : Nat × (Nat → Int32)} {d : Nat} {Q : Option Value → jj_Hp → Prop} {Ki : Int → jj_Hp → Prop}
/-- what both know of a THING: how much is the greatest with each count, how many THE FIRST has -/
def SpK (W : Nat → Int) (w rest : Int) (c : Nat) : Prop := (∀ k, k < 10 → W k = -1000000 ∨ (-4000 ≤ W k ∧ W k ≤ 4000)) ∧ (-99 ≤ w ∧ w ≤ 99) ∧ c < 10 ∧ rest = W c - w * (c : Int) ∧ (-4000 ≤ W c ∧ W c ≤ 4000)
theorem SpK.le {W : Nat → Int} {w rest : Int} {c k : Nat} (h : SpK W w rest c) (hk : k < 10) (hn : ¬ W k = -1000000) : -20000 ≤ rest - (W k - w * (k : Int)) ∧ rest - (W k - w * (k : Int)) ≤ 20000 := by
  obtain ⟨h1, h2, h3, h4, h5⟩ := h
  have a := mul_wc (c := (c : Int)) h2 (by omega)
  have b := mul_wc (c := (k : Int)) h2 (by omega)
  have := h1 k hk
  omega
theorem kX2_restWith {t c : Nat} {w : Int} (ht : t < 4) (hc : c < 10) (k : Ki (Z 18 (t * 10 + c) - (c : Int) * w) (jj_h Z Y S)) : jj_Ci (d + 1) mX2_restWith [.ref 15, iv (t : Int), iv (c : Int), iv w] (jj_h Z Y S) Ki :=
  nX2_restWith (bX2_restWith_0 (kX2_greatestWith ht hc (bX2_restWith_6 ⟨_, rfl, k⟩)))
theorem lX2_spanBottom {t c : Nat} {w rest : Int} {W : Nat → Int} (ht : t < 4) (hK : SpK W w rest c) (hW : ∀ k, k < 10 → Z 18 (t * 10 + k) = W k) : ∀ (n k : Nat) (e : Int) (v6 : Value), k + n = c → -1000000 ≤ e ∧ e ≤ 20000 → (∀ x, x = spb W w rest c k n e → -1000000 ≤ x ∧ x ≤ 20000 → Q (some (iv x)) (jj_h Z Y S)) → jj_Ex (d + 2) mX2_spanBottom 14 [.ref 15, iv (t : Int), iv w, iv (c : Int), iv e, iv (k : Int), v6] [] (jj_h Z Y S) Q := by
  have hc := hK.2.2.1
  intro n
  induction n with
  | zero =>
    intro k e v6 hk he hQ
    exact bX2_spanBottom_14 (by omega) (by omega) (fun _ => bX2_spanBottom_74 (hQ e rfl he)) (fun z => by omega)
  | succ n ih =>
    intro k e v6 hk he hQ
    have hWk := hK.1 k (by omega)
    refine bX2_spanBottom_14 (by omega) (by omega) (fun z => by omega) (fun _ => bX2_spanBottom_20 (kX2_greatestWith ht (by omega) ?_))
    rw [hW k (by omega)]
    refine bX2_spanBottom_27 (by omega) (fun e1 => bX2_spanBottom_68 (ih (k + 1) e _ (by omega) he (fun x hx hr => hQ x ?_ hr))) (fun e1 => bX2_spanBottom_32 (kX2_restWith ht (by omega) (bX2_spanBottom_40 (kX2_restWith ht hc (bX2_spanBottom_47 ?_)))))
    · rw [hx]; show _ = spb W w rest c (k + 1) n _; rw [if_pos e1]
    · rw [hW k (by omega), hW c hc]
      have hle := hK.le (k := k) (by omega) e1
      have e3 : -(W k - (k : Int) * w - (W c - (c : Int) * w)) = rest - (W k - w * (k : Int)) := by
        rw [hK.2.2.2.1, Int.mul_comm (k : Int) w, Int.mul_comm (c : Int) w]; omega
      rw [e3]
      have hb := ed_in hle (y := (c : Int) - (k : Int)) (by omega)
      refine kJ9_floorDiv_7cf53 (by omega) (by omega) (bX2_spanBottom_62 (kJ9_max_7cf53 (by omega) (by omega) (bX2_spanBottom_66 (ih (k + 1) _ _ (by omega) (by omega) (fun x hx hr => hQ x ?_ hr)))))
      rw [hx]; show _ = spb W w rest c (k + 1) n _; rw [if_neg e1]
theorem lX2_spanTop {t c : Nat} {w rest : Int} {W : Nat → Int} (ht : t < 4) (hK : SpK W w rest c) (hW : ∀ k, k < 10 → Z 18 (t * 10 + k) = W k) : ∀ (n k : Nat) (e : Int) (v6 v7 : Value), k + n = 10 → c < k → -1000000 ≤ e ∧ e ≤ 20000 → (∀ x, x = spt W w rest c k n e → -1000000 ≤ x ∧ x ≤ 20000 → Q (some (iv x)) (jj_h Z Y S)) → jj_Ex (d + 2) mX2_spanTop 16 [.ref 15, iv (t : Int), iv w, iv (c : Int), iv e, iv (k : Int), v6, v7] [] (jj_h Z Y S) Q := by
  have hc := hK.2.2.1
  intro n
  induction n with
  | zero =>
    intro k e v6 v7 hk hck he hQ
    exact bX2_spanTop_16 (by omega) (fun _ => bX2_spanTop_91 (hQ e rfl he)) (fun z => by omega)
  | succ n ih =>
    intro k e v6 v7 hk hck he hQ
    have hWk := hK.1 k (by omega)
    refine bX2_spanTop_16 (by omega) (fun z => by omega) (fun _ => bX2_spanTop_23 (kX2_greatestWith ht (by omega) ?_))
    rw [hW k (by omega)]
    refine bX2_spanTop_30 (by omega) (fun e1 => bX2_spanTop_85 (ih (k + 1) e _ _ (by omega) (by omega) he (fun x hx hr => hQ x ?_ hr))) (fun e1 => bX2_spanTop_35 (kX2_restWith ht hc (bX2_spanTop_42 (kX2_restWith ht (by omega) (bX2_spanTop_50 ?_)))))
    · rw [hx]; show _ = spt W w rest c (k + 1) n _; rw [if_pos e1]
    · rw [hW k (by omega), hW c hc]
      have hle := hK.le (k := k) (by omega) e1
      have e3 : W c - (c : Int) * w - (W k - (k : Int) * w) = rest - (W k - w * (k : Int)) := by
        rw [hK.2.2.2.1, Int.mul_comm (k : Int) w, Int.mul_comm (c : Int) w]
      rw [e3]
      have hb := ed_in hle (y := (k : Int) - (c : Int)) (by omega)
      refine kJ9_floorDiv_7cf53 (by omega) (by omega) (bX2_spanTop_62 (by omega) (fun e4 => bX2_spanTop_76 (kJ9_min_7cf53 (by omega) (by omega) (bX2_spanTop_83 (ih (k + 1) _ _ _ (by omega) (by omega) (by omega) (fun x hx hr => hQ x ?_ hr))))) (fun e4 => bX2_spanTop_71 (ih (k + 1) _ _ _ (by omega) (by omega) (by omega) (fun x hx hr => hQ x ?_ hr))))
      · rw [hx]; show _ = spt W w rest c (k + 1) n _; rw [if_neg e1, if_neg e4]
      · rw [hx]; show _ = spt W w rest c (k + 1) n _; rw [if_neg e1, if_pos e4]
/-- one count looked at by the reference -/
theorem lX5_span_look {t : Nat} {gr has rest e : Int} {W : Nat → Int} {k : Nat} {v7 v8 : Value} {Z0 : Nat → Nat → Int} (hB : BR b) (ht : t < bN b) (hM : MB Z b) (hk : (k : Int) ≤ bT b t) (hW : ∀ s : SvT, s.1 = -1000000 → (lkF b (t : Int) (k : Int) s).1 = W k) (f0 : fr tkc Z0 Z) (g0 : m27 Z0 Z) (c : ∀ Z', MB Z' b → fr tkc Z0 Z' → m27 Z0 Z' → Z' 27 12 = W k → jj_Ex (d + 3) mX5_span 65 [.ref 27, iv (t : Int), iv gr, iv has, iv rest, iv e, iv (k : Int), v7, v8] [] (jj_h Z' Y S) Q) : jj_Ex (d + 3) mX5_span 47 [.ref 27, iv (t : Int), iv gr, iv has, iv rest, iv e, iv (k : Int), v7, v8] [] (jj_h Z Y S) Q := by
  have h4 := hB.1
  have e2 : ((t : Int)).toNat = t := Int.toNat_natCast t
  have e29 := (hM.2.2.1 t ht).2
  have hT := (hB.2.2.1 t ht).2.2
  refine bX5_span_47 (by omega) (by omega) (by omega) (by rw [e2]; omega) (fun z => by rw [e2] at z; omega) (fun _ => bX5_span_58 (kX5_look hB hM (Or.inr ⟨by omega, by omega, by omega, by rw [e2]; exact hk⟩) (fun Z1 f1 g1 hM1 hK1 hR1 h17 => c Z1 hM1 (f0.trans f1) (g0.trans g1) ?_)))
  rw [hK1.1]; exact hW _ rfl
theorem lX5_span_end {t : Nat} {gr has rest e : Int} {k : Nat} {v7 v8 : Value} (hB : BR b) (ht : t < bN b) (hM : MB Z b) (hk : bT b t < (k : Int)) (hk' : k ≤ 10) (c : Q (some (iv e)) (jj_h Z Y S)) : jj_Ex d mX5_span 47 [.ref 27, iv (t : Int), iv gr, iv has, iv rest, iv e, iv (k : Int), v7, v8] [] (jj_h Z Y S) Q := by
  have h4 := hB.1
  have e2 : ((t : Int)).toNat = t := Int.toNat_natCast t
  have e29 := (hM.2.2.1 t ht).2
  have hT := (hB.2.2.1 t ht).2.2
  exact bX5_span_47 (by omega) (by omega) (by omega) (by rw [e2]; omega) (fun _ => bX5_span_191 c) (fun z => by rw [e2] at z; omega)
theorem lX5_span0b {t c : Nat} {w rest e : Int} {W : Nat → Int} {Z0 : Nat → Nat → Int} (hB : BR b) (ht : t < bN b) (hK : SpK W w rest c) (hW : ∀ k : Nat, (k : Int) ≤ bT b t → ∀ s : SvT, s.1 = -1000000 → (lkF b (t : Int) (k : Int) s).1 = W k) (hQ : ∀ Z', fr tkc Z0 Z' → m27 Z0 Z' → Q (some (iv e)) (jj_h Z' Y S)) : ∀ (n k : Nat) (Z : Nat → Nat → Int) (v7 v8 : Value), (k : Int) + (n : Int) = bT b t + 1 → c ≤ k → MB Z b → fr tkc Z0 Z → m27 Z0 Z → jj_Ex (d + 3) mX5_span 47 [.ref 27, iv (t : Int), iv 0, iv (c : Int), iv rest, iv e, iv (k : Int), v7, v8] [] (jj_h Z Y S) Q := by
  have hT := (hB.2.2.1 t ht).2.2
  intro n
  induction n with
  | zero =>
    intro k Z v7 v8 hk hck hM f0 g0
    exact lX5_span_end hB ht hM (by omega) (by omega) (hQ Z f0 g0)
  | succ n ih =>
    intro k Z v7 v8 hk hck hM f0 g0
    have hWk := hK.1 k (by omega)
    refine lX5_span_look hB ht hM (by omega) (hW k (by omega)) f0 g0 (fun Z1 hM1 f1 g1 h12 => ?_)
    have nx : ∀ v7 v8, jj_Ex (d + 3) mX5_span 47 [.ref 27, iv (t : Int), iv 0, iv (c : Int), iv rest, iv e, iv ((k : Int) + 1), v7, v8] [] (jj_h Z1 Y S) Q := fun v7 v8 => ih (k + 1) Z1 v7 v8 (by omega) (by omega) hM1 f1 g1
    exact bX5_span_65 (by omega) (fun _ => bX5_span_185 (nx _ _)) (fun _ => bX5_span_74 (by omega) (by omega) (fun _ => bX5_span_185 (nx _ _)) (fun e1 => bX5_span_80 (by omega) (by omega) (fun e2 => by omega) (fun _ => bX5_span_86 (by omega) (fun z => by omega) (fun _ => bX5_span_95 (nx _ _)))))
theorem lX5_span0a {t c : Nat} {w rest : Int} {W : Nat → Int} {Z0 : Nat → Nat → Int} (hB : BR b) (ht : t < bN b) (hw : bW b t = w) (hK : SpK W w rest c) (hcT : (c : Int) ≤ bT b t) (hW : ∀ k : Nat, (k : Int) ≤ bT b t → ∀ s : SvT, s.1 = -1000000 → (lkF b (t : Int) (k : Int) s).1 = W k) : ∀ (n k : Nat) (Z : Nat → Nat → Int) (e : Int) (v7 v8 : Value), k + n = c → -1000000 ≤ e ∧ e ≤ 20000 → MB Z b → fr tkc Z0 Z → m27 Z0 Z → (∀ Z', fr tkc Z0 Z' → m27 Z0 Z' → Q (some (iv (spb W w rest c k n e))) (jj_h Z' Y S)) → jj_Ex (d + 3) mX5_span 47 [.ref 27, iv (t : Int), iv 0, iv (c : Int), iv rest, iv e, iv (k : Int), v7, v8] [] (jj_h Z Y S) Q := by
  have h4 := hB.1
  have hT := (hB.2.2.1 t ht).2.2
  have et : ((t : Int)).toNat = t := Int.toNat_natCast t
  intro n
  induction n with
  | zero =>
    intro k Z e v7 v8 hk he hM f0 g0 hQ
    exact lX5_span0b hB ht hK hW hQ (bT b t + 1 - (k : Int)).toNat k Z v7 v8 (by omega) (by omega) hM f0 g0
  | succ n ih =>
    intro k Z e v7 v8 hk he hM f0 g0 hQ
    have hWk := hK.1 k (by omega)
    refine lX5_span_look hB ht hM (by omega) (hW k (by omega)) f0 g0 (fun Z1 hM1 f1 g1 h12 => ?_)
    have e28 := (hM1.2.2.1 t ht).1
    refine bX5_span_65 (by omega) (fun e1 => bX5_span_185 (ih (k + 1) Z1 e _ _ (by omega) he hM1 f1 g1 (fun Z' f2 g2 => ?_))) (fun e1 => bX5_span_74 (by omega) (by omega) (fun z => by omega) (fun _ => bX5_span_80 (by omega) (by omega) (fun _ => bX5_span_90 (by omega) (fun _ => bX5_span_98 (by omega) (by omega) (by omega) (fun _ => bX5_span_133 ?_) (fun z => absurd rfl z)) (fun z => absurd rfl z)) (fun z => by omega)))
    · rw [h12] at e1
      have := hQ Z' f2 g2
      rw [show spb W w rest c k (n + 1) e = spb W w rest c (k + 1) n e by show spb W w rest c (k + 1) n _ = _; rw [if_pos e1]] at this
      exact this
    · rw [h12] at e1
      rw [et, e28, hw, h12]
      have hle := hK.le (k := k) (by omega) e1
      have hb := ed_in hle (y := (c : Int) - (k : Int)) (by omega)
      have hQ' : ∀ x, x = max e (-((rest - (W k - w * (k : Int))) / ((c : Int) - (k : Int)))) → ∀ v7 v8, jj_Ex (d + 3) mX5_span 47 [.ref 27, iv (t : Int), iv 0, iv (c : Int), iv rest, iv x, iv ((k : Int) + 1), v7, v8] [] (jj_h Z1 Y S) Q := fun x hx v7 v8 =>
        ih (k + 1) Z1 x v7 v8 (by omega) (by omega) hM1 f1 g1 (fun Z' f2 g2 => by
          have := hQ Z' f2 g2
          rw [show spb W w rest c k (n + 1) e = spb W w rest c (k + 1) n x by show spb W w rest c (k + 1) n _ = _; rw [if_neg e1, hx]] at this
          exact this)
      refine kX5_floor (by omega) (by omega) (bX5_span_145 (by omega) (fun e5 => bX5_span_176 (hQ' _ (by omega) _ _)) (fun e5 => bX5_span_155 (by omega) (fun _ => bX5_span_169 (by omega) (by omega) (fun e6 => bX5_span_181 (hQ' _ (by omega) _ _)) (fun e6 => bX5_span_176 (hQ' _ (by omega) _ _))) (fun z => absurd rfl z)))
theorem lX5_span1b {t c : Nat} {w rest : Int} {W : Nat → Int} {Z0 : Nat → Nat → Int} (hB : BR b) (ht : t < bN b) (hw : bW b t = w) (hK : SpK W w rest c) (hW : ∀ k : Nat, (k : Int) ≤ bT b t → ∀ s : SvT, s.1 = -1000000 → (lkF b (t : Int) (k : Int) s).1 = W k) : ∀ (n k : Nat) (Z : Nat → Nat → Int) (e : Int) (v7 v8 : Value), (k : Int) + (n : Int) = bT b t + 1 → c < k → -1000000 ≤ e ∧ e ≤ 20000 → MB Z b → fr tkc Z0 Z → m27 Z0 Z → (∀ Z', fr tkc Z0 Z' → m27 Z0 Z' → Q (some (iv (spt W w rest c k n e))) (jj_h Z' Y S)) → jj_Ex (d + 3) mX5_span 47 [.ref 27, iv (t : Int), iv 1, iv (c : Int), iv rest, iv e, iv (k : Int), v7, v8] [] (jj_h Z Y S) Q := by
  have h4 := hB.1
  have hT := (hB.2.2.1 t ht).2.2
  have et : ((t : Int)).toNat = t := Int.toNat_natCast t
  intro n
  induction n with
  | zero =>
    intro k Z e v7 v8 hk hck he hM f0 g0 hQ
    exact lX5_span_end hB ht hM (by omega) (by omega) (hQ Z f0 g0)
  | succ n ih =>
    intro k Z e v7 v8 hk hck he hM f0 g0 hQ
    have hWk := hK.1 k (by omega)
    refine lX5_span_look hB ht hM (by omega) (hW k (by omega)) f0 g0 (fun Z1 hM1 f1 g1 h12 => ?_)
    have e28 := (hM1.2.2.1 t ht).1
    refine bX5_span_65 (by omega) (fun e1 => bX5_span_185 (ih (k + 1) Z1 e _ _ (by omega) (by omega) he hM1 f1 g1 (fun Z' f2 g2 => ?_))) (fun e1 => bX5_span_74 (by omega) (by omega) (fun z => by omega) (fun _ => bX5_span_80 (by omega) (by omega) (fun z => by omega) (fun _ => bX5_span_86 (by omega) (fun _ => bX5_span_98 (by omega) (by omega) (by omega) (fun z => by omega) (fun _ => bX5_span_118 ?_)) (fun z => absurd rfl z))))
    · rw [h12] at e1
      have := hQ Z' f2 g2
      rw [show spt W w rest c k (n + 1) e = spt W w rest c (k + 1) n e by show spt W w rest c (k + 1) n _ = _; rw [if_pos e1]] at this
      exact this
    · rw [h12] at e1
      rw [et, e28, hw, h12]
      have hle := hK.le (k := k) (by omega) e1
      have hb := ed_in hle (y := (k : Int) - (c : Int)) (by omega)
      have hQ' : ∀ x, x = (if e = -1000000 then (rest - (W k - w * (k : Int))) / ((k : Int) - (c : Int)) else min e ((rest - (W k - w * (k : Int))) / ((k : Int) - (c : Int)))) → ∀ v7 v8, jj_Ex (d + 3) mX5_span 47 [.ref 27, iv (t : Int), iv 1, iv (c : Int), iv rest, iv x, iv ((k : Int) + 1), v7, v8] [] (jj_h Z1 Y S) Q := fun x hx v7 v8 =>
        ih (k + 1) Z1 x v7 v8 (by omega) (by omega) (by rw [hx]; split <;> omega) hM1 f1 g1 (fun Z' f2 g2 => by
          have := hQ Z' f2 g2
          rw [show spt W w rest c k (n + 1) e = spt W w rest c (k + 1) n x by show spt W w rest c (k + 1) n _ = _; rw [if_neg e1, hx]] at this
          exact this)
      refine kX5_floor (by omega) (by omega) (bX5_span_130 (by omega) (fun e5 => bX5_span_176 (hQ' _ (by rw [if_pos e5]) _ _)) (fun e5 => bX5_span_155 (by omega) (fun z => by omega) (fun _ => bX5_span_159 (by omega) (by omega) (fun e6 => bX5_span_181 (hQ' _ (by rw [if_neg e5]; omega) _ _)) (fun e6 => bX5_span_166 (hQ' _ (by rw [if_neg e5]; omega) _ _)))))
theorem lX5_span1a {t c : Nat} {w rest : Int} {W : Nat → Int} {Z0 : Nat → Nat → Int} (hB : BR b) (ht : t < bN b) (hw : bW b t = w) (hK : SpK W w rest c) (hcT : (c : Int) ≤ bT b t) (hW : ∀ k : Nat, (k : Int) ≤ bT b t → ∀ s : SvT, s.1 = -1000000 → (lkF b (t : Int) (k : Int) s).1 = W k) (hQ : ∀ Z', fr tkc Z0 Z' → m27 Z0 Z' → Q (some (iv (spt W w rest c (c + 1) (bT b t - (c : Int)).toNat (-1000000)))) (jj_h Z' Y S)) : ∀ (n k : Nat) (Z : Nat → Nat → Int) (v7 v8 : Value), k + n = c + 1 → MB Z b → fr tkc Z0 Z → m27 Z0 Z → jj_Ex (d + 3) mX5_span 47 [.ref 27, iv (t : Int), iv 1, iv (c : Int), iv rest, iv (-1000000), iv (k : Int), v7, v8] [] (jj_h Z Y S) Q := by
  have hT := (hB.2.2.1 t ht).2.2
  intro n
  induction n with
  | zero =>
    intro k Z v7 v8 hk hM f0 g0
    refine lX5_span1b hB ht hw hK hW (bT b t - (c : Int)).toNat k Z (-1000000) v7 v8 (by omega) (by omega) (by omega) hM f0 g0 ?_
    rw [show k = c + 1 by omega]; exact hQ
  | succ n ih =>
    intro k Z v7 v8 hk hM f0 g0
    have hWk := hK.1 k (by omega)
    refine lX5_span_look hB ht hM (by omega) (hW k (by omega)) f0 g0 (fun Z1 hM1 f1 g1 h12 => ?_)
    have nx : ∀ v7 v8, jj_Ex (d + 3) mX5_span 47 [.ref 27, iv (t : Int), iv 1, iv (c : Int), iv rest, iv (-1000000), iv ((k : Int) + 1), v7, v8] [] (jj_h Z1 Y S) Q := fun v7 v8 => ih (k + 1) Z1 v7 v8 (by omega) hM1 f1 g1
    exact bX5_span_65 (by omega) (fun _ => bX5_span_185 (nx _ _)) (fun _ => bX5_span_74 (by omega) (by omega) (fun _ => bX5_span_185 (nx _ _)) (fun e1 => bX5_span_80 (by omega) (by omega) (fun e2 => bX5_span_90 (by omega) (fun z => by omega) (fun _ => bX5_span_95 (nx _ _))) (fun z => by omega)))
theorem op_span (hC : CNf CN) (h : Inv SV CN b Z Y) {x gr : Int} (hx : i32 x) (hg : gr = 0 ∨ gr = 1) : PairI SV CN (d + 8) mX4_span mX5_span [.ref 0, iv x, iv gr] [.ref 27, iv x, iv gr] Z Y S := by
  have hB := h.1
  obtain ⟨n1, n2, n3, n4, n5, n6⟩ := h.nx
  refine nX4_span (bX4_span_0 (kX4_isThing hx (by omega) (fun c => bX4_span_5 (by omega) (fun _ => bX4_span_11 ?_) (fun e => by omega)) (fun c => bX4_span_5 (by omega) (fun e => absurd rfl e) (fun _ => bX4_span_8 ⟨_, rfl, Z, Y, rfl, by omega, ?_⟩))))
  · obtain ⟨t, et⟩ := Int.eq_ofNat_of_zero_le (show 0 ≤ x by omega)
    subst et
    have e2 : ((t : Int)).toNat = t := Int.toNat_natCast t
    have ht : t < bN b := by omega
    refine kX4_freshSurvey hC h (fun Z1 hI hS f1 e1 => ?_)
    obtain ⟨f, g, hK, hR, h15⟩ := hS
    obtain ⟨m1, m2, m3, m4, m5, m6⟩ := hI.nx
    have hG := svG hB f g
    have hP := svP hB f g
    have hT := hB.2.2.1 t ht
    have hfr := hP.2.1 (by omega)
    have hfb := hfr.1 t ht
    obtain ⟨c, hc⟩ := Int.eq_ofNat_of_zero_le hfb.1
    have hcT : (c : Int) ≤ bT b t := by omega
    have ew := (hI.2.1.2.2.1 t ht).1
    have ef : Z1 16 t = (c : Int) := (hK.2.2.2.2.1 t ht).1.trans hc
    -- with the count of THE FIRST the greatest is the VALUE
    have hWc : (svF b f g).2.2.2.2.2.1 t c = (svF b f g).1 := by
      refine (hP.2.2.1 t c ht).unique (Or.inr ⟨⟨_, ⟨hfr.1, hfr.2.1, hc⟩, hfr.2.2⟩, fun q hq => ?_⟩)
      rcases hP.1 with z | z
      · omega
      · exact z.2 q ⟨hq.1, hq.2.1⟩
    have hW : ∀ k, k < 10 → Z1 18 (t * 10 + k) = (svF b f g).2.2.2.2.2.1 t k := fun k hk => hK.2.2.2.2.2.1 t k ht hk
    have hSp : SpK ((svF b f g).2.2.2.2.2.1 t) (bW b t) ((svF b f g).1 - bW b t * (c : Int)) c := by
      refine ⟨fun k hk => ?_, by omega, by omega, by rw [hWc], by omega⟩
      rcases hP.2.2.1 t k ht with z | ⟨⟨q, z1, z2⟩, z3⟩
      · exact Or.inl z.1
      · have := vl_bound hB (bx_bd (fun _ _ => Int.le_refl _) (fun t ht => (bd_T hB t ht).2) z1.1)
        right; omega
    have hWm : ∀ k : Nat, (k : Int) ≤ bT b t → ∀ s : SvT, s.1 = -1000000 → (lkF b (t : Int) (k : Int) s).1 = (svF b f g).2.2.2.2.2.1 t k := fun k hk s hs => (wc_held hB f g hs ht hk).symm
    have i47 : ∀ (y : Int), (∀ Z', fr tkc Z1 Z' → m27 Z1 Z' → MB Z' b → Z' 38 t = (c : Int) → Z' 27 12 = (svF b f g).1 → jj_Ex (d + 8) mX5_span 47 [.ref 27, iv (t : Int), iv gr, iv (c : Int), iv ((svF b f g).1 - bW b t * (c : Int)), iv (-1000000), iv 0, .null, .null] [] (jj_h Z' Y S) (fun r h1 => ∃ x, r = some (iv x) ∧ x = y ∧ ∃ b' Z' Y', h1 = jj_h Z' Y' S ∧ Inv SV CN b' Z' Y')) → jj_Ci (d + 8) mX5_span [.ref 27, iv (t : Int), iv gr] (jj_h Z1 Y S) (fun x h2 => x = y ∧ ∃ b' Z' Y', h2 = jj_h Z' Y' S ∧ Inv SV CN b' Z' Y') := by
      intro y hk
      refine nX5_span (bX5_span_0 (kX5_isThing hx (by omega) (fun c' => bX5_span_5 (by omega) (fun _ => bX5_span_11 (kX5_look hB hI.2.2.1 (Or.inl rfl) (fun Z2 f2 g2 hM2 hK2 hR2 h17 => bX5_span_18 (by omega) (by omega) (by omega) (by omega) ?_))) (fun e => by omega)) (fun c' => by omega)))
      have hs := sv_sim hB f g 0 Z1
      have a1 : Z2 27 12 = (svF b f g).1 := by rw [hK2.1]; exact hs.1.symm
      have a2 : Z2 38 t = (c : Int) := by
        rw [(hK2.2.2.2 t ht).1]
        rcases hs.2.2.2 with z | z
        · omega
        · rw [← z.1]; exact hc
      rw [e2, a1, a2, (hM2.2.2.1 t ht).1]
      exact hk Z2 f2 g2 hM2 a2 a1
    rcases hg with hg | hg
    · subst hg
      refine bX4_span_15 (by omega) (fun _ => bX4_span_37 (by omega) (by omega) ?_) (fun e => absurd rfl e)
      rw [e2, ew]
      refine nX2_spanBottom (bX2_spanBottom_0 (by omega) (by omega) ?_)
      rw [e2, ef]
      refine lX2_spanBottom (d := d + 5) (by omega) hSp hW c 0 (-1000000) _ (by omega) (by omega) (fun y hy hr => ⟨_, rfl, bX4_span_51 ⟨_, rfl, Z1, Y, rfl, by omega, i47 y (fun Z2 f2 g2 hM2 a2 a1 => ?_)⟩⟩)
      exact lX5_span0a (d := d + 5) (Z0 := Z1) hB ht rfl hSp hcT hWm c 0 Z2 (-1000000) _ _ (by omega) (by omega) hM2 f2 g2 (fun Z3 f3 g3 => ⟨_, rfl, hy.symm, b, Z3, Y, rfl, inv_tk hI hC f3 g3⟩)
    · subst hg
      refine bX4_span_15 (by omega) (fun e => by omega) (fun _ => bX4_span_20 (by omega) (by omega) ?_)
      rw [e2, ew]
      refine nX2_spanTop (bX2_spanTop_0 (by omega) (by omega) ?_)
      rw [e2, ef, show (c : Int) + 1 = ((c + 1 : Nat) : Int) from rfl]
      refine lX2_spanTop (d := d + 5) (by omega) hSp hW (9 - c) (c + 1) (-1000000) _ _ (by omega) (by omega) (by omega) (fun y hy hr => ⟨_, rfl, bX4_span_34 ⟨_, rfl, Z1, Y, rfl, by omega, i47 y (fun Z2 f2 g2 hM2 a2 a1 => ?_)⟩⟩)
      refine lX5_span1a (d := d + 5) (Z0 := Z1) hB ht rfl hSp hcT hWm (fun Z3 f3 g3 => ⟨_, rfl, ?_, b, Z3, Y, rfl, inv_tk hI hC f3 g3⟩) (c + 1) 0 Z2 _ _ (by omega) hM2 f2 g2
      rw [hy, show 9 - c = (bT b t - (c : Int)).toNat + (9 - c - (bT b t - (c : Int)).toNat) by omega, spt_add]
      exact (spt_none _ _ _ (fun i h1 h2 => wc_over hB f g ht (by omega))).symm
  · exact nX5_span (bX5_span_0 (kX5_isThing hx (by omega) (fun c' => by omega) (fun c' => bX5_span_5 (by omega) (fun e => absurd rfl e) (fun _ => bX5_span_8 ⟨_, rfl, rfl, b, Z, Y, rfl, h⟩))))
end SPN

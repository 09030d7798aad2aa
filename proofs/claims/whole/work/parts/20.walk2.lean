/-! the walk: begin, step, what is over, the greatest -/
def lim0 (b : Bk) : Nat → Int := fun r => if bO b r = 0 then 1000000 else bI b r
def ldp (b : Bk) (p : Nat → Int) (r : Nat) : Int := if bK b r = 2 then min (p (bL b r).toNat) (p (bR b r).toNat) else sf (fun t => p t * bF b r t) 0 (bN b)
def fo (b : Bk) (lim p : Nat → Int) : Nat → Nat → Int
  | _, 0 => -1000000
  | r, k + 1 => if lim r < ldp b p r then (r : Int) else fo b lim p (r + 1) k
def pr (ms : Nat → Int) : Nat → Nat → Int → Int
  | _, 0, a => a
  | t, k + 1, a => pr ms (t + 1) k (a * (ms t + 1))
/-- the next plan -/
def od (ms : Nat → Int) : Nat → (Nat → Int) → (Nat → Int)
  | 0, p => p
  | k + 1, p => if ms k ≤ p k then od ms k (pu p k 0) else pu p k (p k + 1)
def vlp (b : Bk) (p : Nat → Int) : Int := sf (fun t => p t * bW b t) 0 (bN b)
def bd (n : Nat) (p : Nat → Int) : Prop := ∀ t, t < n → 0 ≤ p t ∧ p t ≤ 9
theorem sf_bound {f : Nat → Int} {c : Int} : ∀ (n k : Nat), (∀ i, k ≤ i → i < k + n → -c ≤ f i ∧ f i ≤ c) → -(c * n) ≤ sf f k n ∧ sf f k n ≤ c * n
  | 0, k, _ => by show -(c * 0) ≤ 0 ∧ 0 ≤ c * 0; omega
  | n + 1, k, h => by
    have h1 := h k (by omega) (by omega)
    have h2 := sf_bound n (k + 1) (fun i h3 h4 => h i (by omega) (by omega))
    show -(c * ((n + 1 : Nat) : Int)) ≤ f k + sf f (k + 1) n ∧ f k + sf f (k + 1) n ≤ c * ((n + 1 : Nat) : Int)
    have e : c * ((n + 1 : Nat) : Int) = c * n + c := by rw [show ((n + 1 : Nat) : Int) = (n : Int) + 1 from rfl, Int.mul_add, Int.mul_one]
    omega
theorem mul_bound {x y cx cy : Int} (hx : 0 ≤ x ∧ x ≤ cx) (hy : -cy ≤ y ∧ y ≤ cy) (hc : 0 ≤ cy) : -(cx * cy) ≤ x * y ∧ x * y ≤ cx * cy := by
  have h1 : x * y ≤ x * cy := Int.mul_le_mul_of_nonneg_left hy.2 hx.1
  have h2 : x * cy ≤ cx * cy := Int.mul_le_mul_of_nonneg_right hx.2 hc
  have h3 : x * (-cy) ≤ x * y := Int.mul_le_mul_of_nonneg_left hy.1 hx.1
  have h4 : x * (-cy) = -(x * cy) := Int.mul_neg _ _
  omega
theorem ld_bound {b : Bk} {p : Nat → Int} (hB : BR b) (hp : bd (bN b) p) {r : Nat} (hr : r < bM b) : -400 ≤ sf (fun t => p t * bF b r t) 0 (bN b) ∧ sf (fun t => p t * bF b r t) 0 (bN b) ≤ 400 := by
  have h := sf_bound (f := fun t => p t * bF b r t) (c := 81) (bN b) 0 (fun i _ hi => mul_bound (cx := 9) (cy := 9) (hp i (by omega)) (hB.2.2.2.2.1 r i hr (by omega)) (by omega))
  have := hB.1
  omega
theorem vl_bound {b : Bk} {p : Nat → Int} (hB : BR b) (hp : bd (bN b) p) : -4000 ≤ vlp b p ∧ vlp b p ≤ 4000 := by
  have h := sf_bound (f := fun t => p t * bW b t) (c := 891) (bN b) 0 (fun i _ hi => mul_bound (cx := 9) (cy := 99) (hp i (by omega)) ⟨(hB.2.2.1 i (by omega)).1, (hB.2.2.1 i (by omega)).2.1⟩ (by omega))
  have := hB.1
  unfold vlp
  omega
theorem ldp_bound {b : Bk} {p : Nat → Int} (hB : BR b) (hp : bd (bN b) p) {r : Nat} (hr : r < bM b) : -400 ≤ ldp b p r ∧ ldp b p r ≤ 400 := by
  unfold ldp
  by_cases h : bK b r = 2
  · rw [if_pos h]
    have h1 := (hB.2.2.2.1 r hr).2.2.2.2.2 (by omega)
    have h2 := hp (bL b r).toNat (by omega)
    have h3 := hp (bR b r).toNat (by omega)
    omega
  · rw [if_neg h]; exact ld_bound hB hp hr
theorem bd.pu {n : Nat} {p : Nat → Int} (h : bd n p) {t : Nat} {v : Int} (hv : 0 ≤ v ∧ v ≤ 9) : bd n (pu p t v) := fun u hu => by
  by_cases e : u = t
  · subst e; rw [pu_at]; exact hv
  · rw [pu_ne p v e]; exact h u hu
theorem bd_od {n : Nat} {ms : Nat → Int} (hm : bd n ms) : ∀ (k : Nat) {p : Nat → Int}, k ≤ n → bd n p → bd n (od ms k p)
  | 0, p, _, h => h
  | k + 1, p, hk, h => by
    unfold od
    have h1 := hm k (by omega)
    have h2 := h k (by omega)
    split
    · exact bd_od hm k (by omega) (h.pu (by omega))
    · exact h.pu (by omega)
section WB
variable {d : Nat} {Z Y : Nat → Nat → Int} {S : Nat × (Nat → Int32)} {K : jj_Hp → Prop} {Ki : Int → jj_Hp → Prop} {Q : Option Value → jj_Hp → Prop} {b : Bk} {lim ms p : Nat → Int}
theorem kX3_load (hB : BR b) (hp : bd (bN b) p) {r : Nat} (hr : r < bM b) (hW : WK b Z lim ms p) (k : Ki (ldp b p r) (jj_h Z Y S)) : jj_Ci (d + 1) mX3_load [.ref 10, iv (r : Int)] (jj_h Z Y S) Ki := by
  obtain ⟨hX, h1, h2, h3⟩ := id hW
  have hn := hB.1
  have hm := hB.2.1
  have e2 : ((r : Int)).toNat = r := by omega
  have hx := hX.2.2.2.1 r hr
  have hb := hB.2.2.2.1 r hr
  refine nX3_load (bX3_load_0 (by omega) (by omega) (by rw [e2]; omega) (fun h => ?_) (fun h => ?_))
  · rw [e2, hx.1] at h
    obtain ⟨g1, g2⟩ := hx.2.2.2 (by omega)
    have g3 := hb.2.2.2.2.2 (by omega)
    have l1 := h1 (bL b r).toNat (by omega)
    have l2 := h1 (bR b r).toNat (by omega)
    have p1 := hp (bL b r).toNat (by omega)
    have p2 := hp (bR b r).toNat (by omega)
    refine bX3_load_20 (by omega) (by omega) (by rw [e2, g1]; omega) (by rw [e2, g1]; omega) (by omega) (by omega) (by rw [e2, g2]; omega) (by rw [e2, g2]; omega) ?_
    rw [e2, g1, g2, l1.2, l2.2]
    refine kJ9_min_7cf53 (by omega) (by omega) (bX3_load_51 ⟨_, rfl, ?_⟩)
    unfold ldp at k
    rw [if_pos h] at k
    exact k
  · rw [e2, hx.1] at h
    refine bX3_load_13 (by omega) (by omega) ⟨_, rfl, ?_⟩
    rw [e2, (h2 r hr).2]
    unfold ldp at k
    rw [if_neg h] at k
    exact k
theorem lX3_firstOver {f : Int} (hB : BR b) (hp : bd (bN b) p) (hl : ∀ r, r < bM b → i32 (lim r)) (hW : WK b Z lim ms p) : ∀ (n r : Nat), r + n = bM b → (∀ x, x = fo b lim p r n → Q (some (iv x)) (jj_h Z Y S)) → jj_Ex (d + 2) mX3_firstOver 2 [.ref 10, iv f, iv (r : Int)] [] (jj_h Z Y S) Q := by
  have hm := hB.2.1
  have hx1 := hW.1.2.1
  intro n
  induction n with
  | zero =>
    intro r hr hQ
    exact bX3_firstOver_2 (by omega) (by omega) (fun h => bX3_firstOver_35 (hQ _ rfl)) (fun h => by omega)
  | succ n ih =>
    intro r hr hQ
    have e2 : ((r : Int)).toNat = r := by omega
    have hlr := hl r (by omega)
    have hlw := (hW.2.2.1 r (by omega)).1
    have hld := ldp_bound hB hp (show r < bM b by omega)
    refine bX3_firstOver_2 (by omega) (by omega) (fun h => by omega) (fun h => bX3_firstOver_13 (kX3_load hB hp (by omega) hW (bX3_firstOver_18 (by omega) (by omega) (by omega) (by rw [e2, hlw]; exact hlr) (fun h => bX3_firstOver_29 ?_) (fun h => bX3_firstOver_27 ?_))))
    · rw [e2, hlw] at h
      refine ih (r + 1) (by omega) (fun x hx => hQ x ?_)
      unfold fo
      rw [if_neg (by omega)]; exact hx
    · rw [e2, hlw] at h
      refine hQ _ ?_
      unfold fo
      rw [if_pos (by omega)]
theorem kX3_firstOver {f : Nat} (hB : BR b) (hp : bd (bN b) p) (hl : ∀ r, r < bM b → i32 (lim r)) (hf : f ≤ bM b) (hW : WK b Z lim ms p) (k : Ki (fo b lim p f (bM b - f)) (jj_h Z Y S)) : jj_Ci (d + 2) mX3_firstOver [.ref 10, iv (f : Int)] (jj_h Z Y S) Ki :=
  nX3_firstOver (bX3_firstOver_0 (lX3_firstOver hB hp hl hW (bM b - f) f (by omega) (fun x hx => ⟨x, rfl, hx ▸ k⟩)))
theorem lX3_plans (hB : BR b) (hW : WK b Z lim ms p) : ∀ (n t : Nat) (a : Int), t + n = bN b → Q (some (iv (pr ms t n a))) (jj_h Z Y S) → jj_Ex d mX3_plans 4 [.ref 10, iv a, iv (t : Int)] [] (jj_h Z Y S) Q := by
  have hm := hB.1
  have hx1 := hW.1.1
  intro n
  induction n with
  | zero =>
    intro t a hr hQ
    exact bX3_plans_4 (by omega) (by omega) (fun h => bX3_plans_32 hQ) (fun h => by omega)
  | succ n ih =>
    intro t a hr hQ
    have e2 : ((t : Int)).toNat = t := by omega
    refine bX3_plans_4 (by omega) (by omega) (fun h => by omega) (fun h => bX3_plans_15 (by omega) (by omega) ?_)
    rw [e2, (hW.2.1 t (by omega)).1]
    exact ih (t + 1) _ (by omega) hQ
theorem kX3_plans (hB : BR b) (hW : WK b Z lim ms p) (k : Ki (pr ms 0 (bN b) 1) (jj_h Z Y S)) : jj_Ci d mX3_plans [.ref 10] (jj_h Z Y S) Ki :=
  nX3_plans (bX3_plans_0 (lX3_plans hB hW (bN b) 0 1 (by omega) ⟨_, rfl, k⟩))
theorem lX3_step (hB : BR b) (hm : bd (bN b) ms) : ∀ (n : Nat) (Z : Nat → Nat → Int) (p : Nat → Int), n ≤ bN b → bd (bN b) p → WK b Z lim ms p → (∀ Z', fr wkc Z Z' → WK b Z' lim ms (od ms n p) → Q none (jj_h Z' Y S)) → jj_Ex (d + 1) mX3_step 10 [.ref 10, iv ((n : Int) - 1)] [] (jj_h Z Y S) Q := by
  have hn := hB.1
  intro n
  induction n with
  | zero =>
    intro Z p h1 h2 hW hQ
    exact bX3_step_10 (by omega) (fun h => bX3_step_54 (hQ Z fr.rf hW)) (fun h => by omega)
  | succ n ih =>
    intro Z p h1 h2 hW hQ
    have e1 : ((n + 1 : Nat) : Int) - 1 = (n : Int) := by omega
    have e2 : ((n : Int)).toNat = n := by omega
    have hp := h2 n (by omega)
    have hms := hm n (by omega)
    have hw := hW.2.1 n (by omega)
    rw [e1]
    refine bX3_step_10 (by omega) (fun h => by omega) (fun h => bX3_step_14 (by omega) (by omega) (by omega) (by omega) (by rw [e2, hw.2]; omega) (by rw [e2, hw.1]; omega) (fun h => ?_) (fun h => ?_))
    · rw [e2, hw.1, hw.2] at h
      refine bX3_step_36 (by omega) (by omega) ?_
      rw [e2, hw.2]
      refine kX3_shift (by omega) hB (by omega) hW (fun Z' f1 hW' => bX3_step_48 ?_)
      rw [show p n + -p n = 0 by omega] at hW'
      rw [show (n : Int) + (-1) = (n : Int) - 1 by omega]
      refine ih Z' _ (by omega) (h2.pu (by omega)) hW' (fun Z'' f2 hW'' => hQ Z'' (f1.trans f2) ?_)
      unfold od
      rw [if_pos h]
      exact hW''
    · rw [e2, hw.1, hw.2] at h
      refine bX3_step_29 (kX3_shift (by omega) hB (by omega) hW (fun Z' f1 hW' => bX3_step_35 (hQ Z' f1 ?_)))
      unfold od
      rw [if_neg h]
      exact hW'
theorem kX3_step (hB : BR b) (hm : bd (bN b) ms) (hp : bd (bN b) p) (hW : WK b Z lim ms p) (k : ∀ Z', fr wkc Z Z' → WK b Z' lim ms (od ms (bN b) p) → K (jj_h Z' Y S)) : jj_Cv (d + 1) mX3_step [.ref 10] (jj_h Z Y S) K := by
  refine nX3_step (bX3_step_0 ?_)
  rw [hW.1.1]
  exact lX3_step hB hm (bN b) Z p (Nat.le_refl _) hp hW (fun Z' f hW' => ⟨rfl, k Z' f hW'⟩)
end WB

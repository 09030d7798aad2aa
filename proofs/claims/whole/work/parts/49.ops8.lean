/-! share, sharePrice, holds, gap: both calls agree -/
theorem VC00 (b : Bk) : VC b 0 0 := by
  have h0 : ∀ k, bt 0 k = false := fun k => by rw [bt_0, Nat.zero_div]
  have hf : ∀ n, fp (bt 0) n = 0 := by
    intro n
    induction n with
    | zero => rfl
    | succ n ih => rw [fp_n (h0 n), ih]
  refine ⟨fun r _ h => ?_, ?_, ?_, fun c hc => ?_⟩
  · rw [h0] at h; exact absurd h Bool.false_ne_true
  · unfold ckk; rw [hf, hf]
  · unfold cD ckk; rw [hf]; show (1 : Int) ≠ 0; omega
  · unfold ckk at hc; rw [hf] at hc; omega
section OPS8
variable {b : Bk} {Z Y : Nat → Nat → Int} {S : Nat × (Nat → Int32)} {d : Nat} {p q : Nat}
theorem VC.k4 (hB : BR b) (hv : VC b p q) : ckk b p ≤ 4 := by
  have := fp_le (bt q) (bN b)
  have := hB.1
  have := hv.2.1
  omega
theorem VC.slo0 (hp : p < 2 ^ bM b) (hv : VC b p q) (r : Nat) : 0 ≤ slo b p q r := by
  unfold slo
  split
  · next z =>
    have hrM : r < bM b := by
      by_cases e' : r < bM b
      · exact e'
      · rw [bt_ge hp (by omega)] at z; exact absurd z Bool.false_ne_true
    exact hv.2.2.2 _ (fp_lt z hrM)
  · exact Int.le_refl _
theorem VC.slo_in (hB : BR b) (hp : p < 2 ^ bM b) (hv : VC b p q) (r : Nat) : 0 ≤ slo b p q r ∧ slo b p q r ≤ 1732104 := by
  have := slo_b (p := p) (q := q) hB (hv.k4 hB) hv.2.1 r
  unfold bdd at this
  exact ⟨hv.slo0 hp r, this.2⟩
theorem VC.bel_in (hB : BR b) (hv : VC b p q) : 0 < bel b p q ∧ bel b p q ≤ 157464 := by
  have := bel_b (p := p) (q := q) hB (hv.k4 hB)
  unfold bdd at this
  exact ⟨sgn_pos hv.2.2.1, this.2⟩
theorem sf_in {f : Nat → Int} {c : Int} : ∀ (n k : Nat), (∀ i, k ≤ i → i < k + n → 0 ≤ f i ∧ f i ≤ c) → 0 ≤ sf f k n ∧ sf f k n ≤ c * n
  | 0, k, _ => by show (0 : Int) ≤ 0 ∧ (0 : Int) ≤ c * 0; omega
  | n + 1, k, h => by
    have h1 := h k (by omega) (by omega)
    have h2 := sf_in n (k + 1) (fun i h3 h4 => h i (by omega) (by omega))
    show 0 ≤ f k + sf f (k + 1) n ∧ f k + sf f (k + 1) n ≤ c * ((n + 1 : Nat) : Int)
    have e : c * ((n + 1 : Nat) : Int) = c * n + c := by rw [show ((n + 1 : Nat) : Int) = (n : Int) + 1 from rfl, Int.mul_add, Int.mul_one]
    omega
theorem VC.top_in (hB : BR b) (hp : p < 2 ^ bM b) (hv : VC b p q) : 0 ≤ topc b p q ∧ topc b p q ≤ 15000000000 := by
  have h4 := hB.1
  have h6 := hB.2.1
  have a := sf_in (f := fun r => bI b r * slo b p q r) (c := 1730371896) (bM b) 0 (fun r _ hr => by
    have := hB.2.2.2.1 r (by omega)
    have := mul_in (cx := 999) (cy := 1732104) (show 0 ≤ bI b r ∧ bI b r ≤ 999 by omega) (hv.slo_in hB hp r)
    omega)
  have c := sf_in (f := fun t => bT b t * max 0 (bey b p q t)) (c := 982102968) (bN b) 0 (fun t _ ht => by
    have h1 := hB.2.2.1 t (by omega)
    have h2 := bey_b (p := p) (q := q) hB (hv.k4 hB) hv.2.1 (t := t) (by omega)
    unfold bdd at h2
    have := mul_in (cx := 9) (cy := 109122552) (show 0 ≤ bT b t ∧ bT b t ≤ 9 by omega) (show 0 ≤ max 0 (bey b p q t) ∧ max 0 (bey b p q t) ≤ 109122552 by omega)
    omega)
  unfold topc
  omega
theorem CI.bp {n : Nat} {Dn : Nat → Nat → Prop} (hB : BR b) (h : CI b n Y Dn) {r : Nat} (hr : r < 6) : BP n (Y 21) (fun i => Y 23 (i * 6 + r)) (Y 22) := by
  intro i hi
  obtain ⟨p, q, hp, hq, hv, h1, h2, h3⟩ := h.1 i hi
  rw [h1, h2]
  show _ ∧ (0 ≤ Y 23 (i * 6 + r) ∧ Y 23 (i * 6 + r) ≤ 1732104) ∧ _
  rw [h3 r hr]
  exact ⟨hv.top_in hB hp, hv.slo_in hB hp r, hv.bel_in hB⟩
theorem CI.pos {n : Nat} (h : CI b n Y (fun _ _ => True)) : 0 < n := by
  obtain ⟨i, hi, _⟩ := h.2 0 0 trivial (Nat.two_pow_pos _) (Nat.two_pow_pos _) (VC00 b)
  omega
/-- the same fraction -/
theorem RV_ex (hB : BR b) : ∃ s, s < 2 ^ rn b ∧ RV b s := by
  obtain ⟨s, h1, h2, _⟩ := corner_base hB (VC00 b)
  exact ⟨s, h1, h2⟩
/-- the least bounds are the same fraction -/
theorem least_eq {s : Nat} (hB : BR b) (hv : VC b p q) (hV : RV b s) (hc : ∀ p' q', p' < 2 ^ bM b → q' < 2 ^ bN b → VC b p' q' → topc b p q * bel b p' q' ≤ topc b p' q' * bel b p q) (hm : ∀ s', s' < 2 ^ rn b → RV b s' → msum b s * mbl b s' ≤ msum b s' * mbl b s) : topc b p q * mbl b s = msum b s * bel b p q := by
  have b0 := (hv.bel_in hB).1
  have m0 := (mbl_in hB hV).1
  obtain ⟨p', q', a1, a2, a3, a4, _⟩ := base_corner hB hV
  obtain ⟨s', c1, c2, c3, _⟩ := corner_base hB hv
  have b0' := (a3.bel_in hB).1
  have m0' := (mbl_in hB c2).1
  have l1 : topc b p q * mbl b s ≤ msum b s * bel b p q := q_trans (c := topc b p' q') (d := bel b p' q') b0' (by omega) (by omega) (hc p' q' a1 a2 a3) (by rw [Int.mul_comm (topc b p' q'), ← a4, Int.mul_comm]; exact Int.le_refl _)
  have l2 : msum b s * bel b p q ≤ topc b p q * mbl b s := q_trans (c := msum b s') (d := mbl b s') m0' (by omega) (by omega) (hm s' c1 c2) (by rw [Int.mul_comm (msum b s'), c3, Int.mul_comm]; exact Int.le_refl _)
  omega
theorem qle_eq {s p e s' p' e' : Int} (h1 : s * e' = s' * e) (h2 : p * e' = p' * e) : qle s p e s' p' e' := Or.inr ⟨h1, by omega⟩
theorem qle_anti {s p e s' p' e' : Int} (h : qle s p e s' p' e') (h' : qle s' p' e' s p e) : s * e' = s' * e ∧ p * e' = p' * e := by
  rcases h with h | h <;> rcases h' with h' | h' <;> omega
/-- the least bounds, with the least price, are the same fractions -/
theorem flat_eq {s r : Nat} (hB : BR b) (hr : r < bM b) (hv : VC b p q) (hV : RV b s) (hc : ∀ p' q', p' < 2 ^ bM b → q' < 2 ^ bN b → VC b p' q' → qle (topc b p q) (slo b p q r) (bel b p q) (topc b p' q') (slo b p' q' r) (bel b p' q')) (hm : ∀ s', s' < 2 ^ rn b → RV b s' → qle (msum b s) (mp b s r) (mbl b s) (msum b s') (mp b s' r) (mbl b s')) : topc b p q * mbl b s = msum b s * bel b p q ∧ slo b p q r * mbl b s = mp b s r * bel b p q := by
  have b0 := (hv.bel_in hB).1
  have m0 := (mbl_in hB hV).1
  obtain ⟨p', q', a1, a2, a3, a4, a5⟩ := base_corner hB hV
  obtain ⟨s', c1, c2, c3, c4⟩ := corner_base hB hv
  have b0' := (a3.bel_in hB).1
  have m0' := (mbl_in hB c2).1
  refine qle_anti (qle_trans b0 b0' m0 (hc p' q' a1 a2 a3) (qle_eq ?_ ?_)) (qle_trans m0 m0' b0 (hm s' c1 c2) (qle_eq ?_ ?_))
  · rw [Int.mul_comm (topc b p' q'), ← a4, Int.mul_comm]
  · rw [Int.mul_comm (slo b p' q' r), ← a5 r hr, Int.mul_comm]
  · rw [Int.mul_comm (msum b s'), c3, Int.mul_comm]
  · rw [Int.mul_comm (mp b s' r), c4 r hr, Int.mul_comm]
/-- what a bound says: no plan is worth more -/
theorem weak {x : Nat → Int} (hB : BR b) (hp : p < 2 ^ bM b) (hv : VC b p q) (hx : bx (fun _ => 0) (bT b) (bN b) x) (hf : fit b (lim0 b) x) : vlp b x * bel b p q ≤ topc b p q := by
  have e1 : vlp b x * bel b p q = sf (fun t => x t * bey b p q t) 0 (bN b) + sf (fun r => slo b p q r * sf (fun t => x t * bF b r t) 0 (bN b)) 0 (bM b) := by
    have e2 : sf (fun r => slo b p q r * sf (fun t => x t * bF b r t) 0 (bN b)) 0 (bM b) = sf (fun t => x t * sf (fun r => bF b r t * slo b p q r) 0 (bM b)) 0 (bN b) := by
      rw [sf_congr (g := fun r => sf (fun t => slo b p q r * (x t * bF b r t)) 0 (bN b)) _ _ (fun r _ _ => (sf_mul _ _ _ _).symm), sf_comm]
      refine sf_congr _ _ (fun t _ _ => ?_)
      rw [← sf_mul]
      refine sf_congr _ _ (fun r _ _ => ?_)
      rw [Int.mul_left_comm, Int.mul_comm (slo b p q r)]
    rw [e2, ← sf_add, Int.mul_comm, vlp, ← sf_mul]
    refine sf_congr _ _ (fun t _ _ => ?_)
    unfold bey
    rw [← Int.mul_add, show bW b t * bel b p q - sf (fun r => bF b r t * slo b p q r) 0 (bM b) + sf (fun r => bF b r t * slo b p q r) 0 (bM b) = bW b t * bel b p q by omega, Int.mul_left_comm, Int.mul_comm (bel b p q)]
  rw [e1]
  unfold topc
  have l1 : sf (fun t => x t * bey b p q t) 0 (bN b) ≤ sf (fun t => bT b t * max 0 (bey b p q t)) 0 (bN b) := by
    refine sf_le _ _ (fun t _ ht => ?_)
    obtain ⟨h1, h2⟩ := hx t (by omega)
    have h1 : (0 : Int) ≤ x t := h1
    by_cases e : 0 ≤ bey b p q t
    · rw [show max 0 (bey b p q t) = bey b p q t by omega]
      exact Int.mul_le_mul_of_nonneg_right h2 e
    · rw [show max 0 (bey b p q t) = 0 by omega, Int.mul_zero]
      have := Int.mul_nonneg h1 (show 0 ≤ -bey b p q t by omega)
      rw [Int.mul_neg] at this
      omega
  have l2 : sf (fun r => slo b p q r * sf (fun t => x t * bF b r t) 0 (bN b)) 0 (bM b) ≤ sf (fun r => bI b r * slo b p q r) 0 (bM b) := by
    refine sf_le _ _ (fun r _ hr => ?_)
    have s0 := hv.slo0 hp r
    rcases bcs (bt p) r with z | z
    · have hc := hv.1 r (by omega) z
      unfold cf at hc
      have hc := of_decide_eq_true hc
      have := hf r (by omega)
      unfold ldp lim0 at this
      rw [if_neg hc.2, if_neg hc.1] at this
      rw [Int.mul_comm (bI b r)]
      exact Int.mul_le_mul_of_nonneg_left this s0
    · have : slo b p q r = 0 := by unfold slo; rw [if_neg (by rw [z]; exact Bool.false_ne_true)]
      show slo b p q r * _ ≤ bI b r * slo b p q r
      rw [this, Int.zero_mul, Int.mul_zero]; exact Int.le_refl _
  omega
/-- the cells that hold what a rule was told of, whatever it was -/
def nz (Z : Nat → Nat → Int) : Nat → Nat → Int := fun a k => if a = 31 ∨ a = 32 then (Int32.ofInt (Z a k)).toInt else Z a k
theorem nz_h : jj_h (nz Z) Y S = jj_h Z Y S := by
  have : (fun a k => Int32.ofInt (nz Z a k)) = (fun a k => Int32.ofInt (Z a k)) := by
    funext a k
    unfold nz
    split
    · rw [Int32.ofInt_toInt]
    · rfl
  unfold jj_h
  rw [this]
theorem nz_o {a : Nat} (h : ¬ (a = 31 ∨ a = 32)) (k : Nat) : nz Z a k = Z a k := if_neg h
theorem nz_in (a k : Nat) (h : a = 31 ∨ a = 32) : i32 (nz Z a k) := by
  unfold nz
  rw [if_pos h]
  exact ⟨Int32.le_toInt _, by have := Int32.toInt_lt (Int32.ofInt (Z a k)); omega⟩
theorem inv_nz (h : Inv SV CN b Z Y) : Inv SV CN b (nz Z) Y := by
  obtain ⟨hB, hX, hM, hP, hs, hc⟩ := h
  refine ⟨hB, hX.fr (fun a ha k => by unfold xbc at ha; exact nz_o (by omega) k), ?_, fun t ht => ?_, ?_, ?_⟩
  · obtain ⟨m1, m2, m3, m4, m5⟩ := hM
    refine ⟨by rw [nz_o (by omega)]; exact m1, by rw [nz_o (by omega)]; exact m2, fun t ht => ?_, fun r hr => ?_, fun r t hr ht => ?_⟩
    · rw [nz_o (by omega), nz_o (by omega)]; exact m3 t ht
    · obtain ⟨w1, w2, w3, w4⟩ := m4 r hr
      have hR := hB.2.2.2.1 r hr
      have h4 := hB.1
      refine ⟨by rw [nz_o (by omega)]; exact w1, by rw [nz_o (by omega)]; exact w2, by rw [nz_o (by omega)]; exact w3, fun hk => ?_⟩
      have hl := hR.2.2.2.2.2 hk
      obtain ⟨z1, z2⟩ := w4 hk
      unfold nz
      rw [if_pos (Or.inl rfl), if_pos (Or.inr rfl), z1, z2, i_toInt (by omega), i_toInt (by omega)]
      exact ⟨rfl, rfl⟩
    · rw [nz_o (by omega)]; exact m5 r t hr ht
  · rw [nz_o (by omega), nz_o (by omega)]; exact hP t ht
  · rw [nz_o (by omega)]
    rcases hs with hs | ⟨h1, h2⟩
    · exact Or.inl hs
    · exact Or.inr ⟨h1, h2.keep (fun a ha k => nz_o (by omega) k)⟩
  · rw [nz_o (by omega)]
    rcases hc with hc | ⟨h1, h2⟩
    · exact Or.inl hc
    · exact Or.inr ⟨h1, CN_f b Z _ Y Y (fun k => nz_o (by omega) k) (fun _ _ _ _ => rfl) h2⟩
theorem inv_sh {Z' Y' : Nat → Nat → Int} (h : Inv SV CN b Z Y) (f : m19c Z Z') (g : ysh Y Y') : Inv SV CN b Z' Y' :=
  h.keep CN_f (f.1.mono (fun a ha => by unfold kpc at ha; unfold shc; omega)) (f.2 0 (by omega)) (f.2 3 (by omega)) (fun a h1 h2 k => g a (by omega) k)
/-- the reference's least bound, from where the class has left -/
theorem md_shares {K : jj_Hp → Prop} {x : Int} (h : Inv SV CN b Z Y) (hx : i32 x) (k : ∀ Z' Y' s, Inv SV CN b Z' Y' → MB Z' b → RS b Z' (rn b) → Lst b x (2 ^ rn b) s Y' → K (jj_h Z' Y' S)) : jj_Cv (d + 2) mX5_shares [.ref 27, iv x] (jj_h Z Y S) K := by
  have hI := inv_nz h
  rw [← nz_h]
  exact kX5_shares h.1 hI.2.2.1 (fun r _ => ⟨nz_in 31 r (Or.inl rfl), nz_in 32 r (Or.inr rfl)⟩) hx (RV_ex h.1) (fun Z' Y' s hM hR f g hL => k Z' Y' s (inv_sh hI f g) hM hR hL)
theorem lst_le {x : Int} {s : Nat} (hL : Lst b x (2 ^ rn b) s Y) : ∀ s', s' < 2 ^ rn b → RV b s' → msum b s * mbl b s' ≤ msum b s' * mbl b s := fun s' h1 h2 => by
  rcases hL.2.2.2.2.2 s' h1 h2 with z | z <;> omega
theorem op_share (h : Inv SV CN b Z Y) {w : Int} (hw : w = 0 ∨ w = 1) : PairL SV CN (d + 11) mX4_share mX5_share [.ref 0, iv w] [.ref 27, iv w] Z Y S := by
  have hB := h.1
  refine nX4_share (bX4_share_0 (kX4_freshCorners h (fun Z1 Y1 hI hCN => ?_)))
  obtain ⟨n, hn, h210, hCI⟩ := hCN
  have hBP := hCI.bp hB (r := 0) (by omega)
  refine bX4_share_4 (jj_Ci.deep (d := d + 1) (by omega) (kX1_leastBound hn h210 hCI.pos hBP (fun j hj hmin => bX4_share_9 (by omega) (by omega) (by omega) (by omega) ?_)))
  rw [Int.toNat_natCast]
  obtain ⟨p, q, hp, hq, hv, q1, q2, q3⟩ := hCI.1 j hj
  have bi := hv.bel_in hB
  have ti := hv.top_in hB hp
  have hc : ∀ p' q', p' < 2 ^ bM b → q' < 2 ^ bN b → VC b p' q' → topc b p q * bel b p' q' ≤ topc b p' q' * bel b p q := by
    intro p' q' hp' hq' hv'
    obtain ⟨i, hi, w1, w2, w3⟩ := hCI.2 p' q' trivial hp' hq' hv'
    have := hmin i hi
    rw [q1, q2, w1, w2] at this
    exact this
  rw [q1, q2]
  have li := lowt_in (below := w) ti.1 bi.1
  refine jj_Cl.deep (d := d + 1) (by omega) (kX4_inLowestTerms (by omega) (by omega) hw (bX4_share_26 ⟨_, rfl, Z1, Y1, rfl, by omega, ?_⟩))
  refine nX5_share (bX5_share_0 (jj_Cv.deep (d := d + 2) (by omega) (md_shares hI (by omega) (fun Z2 Y2 s hI2 hM2 hR2 hL => bX5_share_6 ?_))))
  have mi := mbl_in hB hL.2.1
  have si := msum_in hB hL.2.1
  rw [hL.2.2.1, hL.2.2.2.2.1]
  refine kX5_part (by omega) (by omega) hw (bX5_share_18 ⟨_, rfl, ?_, b, Z2, Y2, rfl, hI2⟩)
  exact lowt_eq si.1 ti.1 mi.1 bi.1 (least_eq hB hv hL.2.1 hc (lst_le hL)).symm
theorem kX5_isPrice {Ki : Int → jj_Hp → Prop} {w : Int} (hw : i32 w) (hB : BR b) (hM : MB Z b) (k1 : (0 ≤ w ∧ w < (bM b : Nat)) ∧ ¬ bK b w.toNat = 2 → Ki 1 (jj_h Z Y S)) (k0 : ¬ ((0 ≤ w ∧ w < (bM b : Nat)) ∧ ¬ bK b w.toNat = 2) → Ki 0 (jj_h Z Y S)) : jj_Ci (d + 2) mX5_isPrice [.ref 27, iv w] (jj_h Z Y S) Ki := by
  have h6 := hB.2.1
  have m2 := hM.2.1
  refine nX5_isPrice (bX5_isPrice_0 (kX5_isRule hw (by omega) (fun c => bX5_isPrice_5 (by omega) (fun z => by omega) (fun _ => ?_)) (fun c => bX5_isPrice_5 (by omega) (fun _ => bX5_isPrice_22 ⟨_, rfl, k0 (by omega)⟩) (fun z => absurd rfl z))))
  have e30 := (hM.2.2.2.1 w.toNat (by omega)).1
  have hK := hB.2.2.2.1 w.toNat (by omega)
  exact bX5_isPrice_8 (by omega) (by omega) (by omega) (fun e => bX5_isPrice_22 ⟨_, rfl, k0 (by omega)⟩) (fun e => bX5_isPrice_18 ⟨_, rfl, k1 ⟨by omega, by omega⟩⟩)
theorem lst_mp {s r : Nat} (hB : BR b) (hr : r < bM b) (hL : Lst b (r : Int) (2 ^ rn b) s Y) : prv b s (r : Int) (bN b) = mp b s r ∧ ∀ s', s' < 2 ^ rn b → RV b s' → qle (msum b s) (mp b s r) (mbl b s) (msum b s') (mp b s' r) (mbl b s') := by
  have e := prv_mp hB hL.2.1.1 hr
  refine ⟨e, fun s' h1 h2 => ?_⟩
  have := hL.2.2.2.2.2 s' h1 h2
  rw [e, prv_mp hB h2.1 hr] at this
  exact this
theorem cf_off {r : Nat} (h : bO b r = 0) : cf b r = false := by unfold cf; exact decide_eq_false (fun z => z.1 h)
theorem lowt_0 {e w : Int} (he : 0 < e) (hw : w = 0 ∨ w = 1) : lowt 0 e w = w := by
  obtain ⟨a, rfl⟩ := Int.eq_ofNat_of_zero_le (show 0 ≤ e by omega)
  unfold lowt
  rcases hw with rfl | rfl
  · rw [if_pos rfl, Int.zero_ediv]
  · rw [if_neg (by omega)]
    show (a : Int) / ((Nat.gcd 0 ((a : Int).toNat) : Nat) : Int) = 1
    rw [Int.toNat_natCast, Nat.gcd_zero_left]
    exact Int.ediv_self (by omega)
theorem op_sharePrice (h : Inv SV CN b Z Y) {w u : Int} (hw : i32 w) (hu : u = 0 ∨ u = 1) : PairL SV CN (d + 11) mX4_sharePrice mX5_sharePrice [.ref 0, iv w, iv u] [.ref 27, iv w, iv u] Z Y S := by
  have hB := h.1
  obtain ⟨n1, n2, n3, n4, n5, n6⟩ := h.nx
  have bad : ¬ ((0 ≤ w ∧ w < (bM b : Nat)) ∧ ¬ bK b w.toNat = 2) → jj_Cl (d + 11) mX5_sharePrice [.ref 27, iv w, iv u] (jj_h Z Y S) (fun y h2 => y = -1000001 ∧ ∃ b' Z' Y', h2 = jj_h Z' Y' S ∧ Inv SV CN b' Z' Y') := fun hn =>
    nX5_sharePrice (bX5_sharePrice_0 (kX5_isPrice hw hB h.2.2.1 (fun c => absurd c hn) (fun c => bX5_sharePrice_5 (by omega) (fun z => absurd rfl z) (fun _ => bX5_sharePrice_8 ⟨_, rfl, rfl, b, Z, Y, rfl, h⟩))))
  refine nX4_sharePrice (bX4_sharePrice_0 (kX4_isRule hw (by omega) (fun c => bX4_sharePrice_5 (by omega) (fun z => by omega) (fun _ => ?_)) (fun c => bX4_sharePrice_5 (by omega) (fun _ => bX4_sharePrice_21 ⟨_, rfl, Z, Y, rfl, by omega, bad (by omega)⟩) (fun z => absurd rfl z))))
  obtain ⟨x1, x2, x3, x4⟩ := h.2.1.2.2.2.1 w.toNat (by omega)
  have hR := hB.2.2.2.1 w.toNat (by omega)
  refine bX4_sharePrice_8 (by omega) (by omega) (by omega) (fun e => bX4_sharePrice_25 (by omega) (by omega) (by omega) (fun e2 => bX4_sharePrice_47 ?_) (fun e2 => ?_)) (fun e => bX4_sharePrice_21 ⟨_, rfl, Z, Y, rfl, by omega, bad (by omega)⟩)
  all_goals
    obtain ⟨r, er⟩ := Int.eq_ofNat_of_zero_le (show 0 ≤ w by omega)
    subst er
    rw [Int.toNat_natCast] at x1 x2 x3 x4 hR e e2 bad
    have hr : r < bM b := by omega
    -- the reference's call
    have mdl : ∀ (Z1 Y1 : Nat → Nat → Int) (y : Int), Inv SV CN b Z1 Y1 → (∀ s Y2, Lst b (r : Int) (2 ^ rn b) s Y2 → lowt (mp b s r) (mbl b s) u = y) → jj_Cl (d + 11) mX5_sharePrice [.ref 27, iv (r : Int), iv u] (jj_h Z1 Y1 S) (fun z h2 => z = y ∧ ∃ b' Z' Y', h2 = jj_h Z' Y' S ∧ Inv SV CN b' Z' Y') := by
      intro Z1 Y1 y hI hy
      refine nX5_sharePrice (bX5_sharePrice_0 (kX5_isPrice hw hB hI.2.2.1 (fun c => bX5_sharePrice_5 (by omega) (fun _ => bX5_sharePrice_12 (jj_Cv.deep (d := d + 2) (by omega) (md_shares hI hw (fun Z2 Y2 s hI2 hM2 hR2 hL => bX5_sharePrice_17 ?_)))) (fun z => by omega)) (fun c => absurd ⟨by omega, by rw [Int.toNat_natCast]; omega⟩ c)))
      have mi := mbl_in hB hL.2.1
      have pi := prv_in hB hL.2.1 (r : Int) (bN b) (Nat.le_refl _)
      rw [hL.2.2.2.1, hL.2.2.2.2.1]
      refine kX5_part (by omega) (by omega) hu (bX5_sharePrice_29 ⟨_, rfl, ?_, b, Z2, Y2, rfl, hI2⟩)
      rw [(lst_mp hB hr hL).1]; exact hy s Y2 hL
  · refine kX4_freshCorners h (fun Z1 Y1 hI hCN => ?_)
    obtain ⟨n, hn, h210, hCI⟩ := hCN
    have hBP := hCI.bp hB (r := r) (by omega)
    refine bX4_sharePrice_51 (jj_Ci.deep (d := d + 2) (by omega) (kX1_flat (by omega) hn h210 hCI.pos hBP (fun j hj hmin => bX4_sharePrice_57 (kX1_slope (by omega) (by omega) (bX4_sharePrice_66 (by omega) (by omega) ?_)))))
    rw [Int.toNat_natCast]
    obtain ⟨p, q, hp, hq, hv, q1, q2, q3⟩ := hCI.1 j hj
    have bi := hv.bel_in hB
    have si := hv.slo_in hB hp r
    have hc : ∀ p' q', p' < 2 ^ bM b → q' < 2 ^ bN b → VC b p' q' → qle (topc b p q) (slo b p q r) (bel b p q) (topc b p' q') (slo b p' q' r) (bel b p' q') := by
      intro p' q' hp' hq' hv'
      obtain ⟨i, hi, w1, w2, w3⟩ := hCI.2 p' q' trivial hp' hq' hv'
      have := hmin i hi
      rw [q1, q2, q3 r (by omega), w1, w2, w3 r (by omega)] at this
      exact this
    rw [q2, q3 r (by omega)]
    have li := lowt_in (below := u) si.1 bi.1
    refine jj_Cl.deep (d := d + 1) (by omega) (kX4_inLowestTerms (by omega) (by omega) hu (bX4_sharePrice_77 ⟨_, rfl, Z1, Y1, rfl, by omega, mdl Z1 Y1 _ hI (fun s Y2 hL => ?_)⟩))
    have mi := mbl_in hB hL.2.1
    obtain ⟨e3, e4⟩ := lst_mp hB hr hL
    have pi := prv_in hB hL.2.1 (r : Int) (bN b) (Nat.le_refl _)
    rw [e3] at pi
    exact lowt_eq pi.1 si.1 mi.1 bi.1 (flat_eq hB hr hv hL.2.1 hc e4).2.symm
  · have hO : bO b r = 0 := by omega
    have key : jj_Cl (d + 11) mX5_sharePrice [.ref 27, iv (r : Int), iv u] (jj_h Z Y S) (fun z h2 => z = u ∧ ∃ b' Z' Y', h2 = jj_h Z' Y' S ∧ Inv SV CN b' Z' Y') := mdl Z Y u h (fun s Y2 hL => by
      have : mp b s r = 0 := by unfold mp; rw [cf_off hO, if_neg Bool.false_ne_true]
      rw [this]
      exact lowt_0 (mbl_in hB hL.2.1).1 hu)
    rcases hu with rfl | rfl
    · exact bX4_sharePrice_37 (by omega) (fun _ => bX4_sharePrice_45 ⟨_, rfl, Z, Y, rfl, by omega, key⟩) (fun z => absurd rfl z)
    · exact bX4_sharePrice_37 (by omega) (fun z => by omega) (fun _ => bX4_sharePrice_41 ⟨_, rfl, Z, Y, rfl, by omega, key⟩)
end OPS8

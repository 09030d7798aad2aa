/-! the reference: whether a plan fits, what it is worth, all plans looked at -/
theorem sf_ind (p : Nat → Int) (x y : Int) : ∀ (n k : Nat), sf (fun t => p t * ((if x = (t : Int) then 1 else 0) - (if y = (t : Int) then 1 else 0))) k n = (if (k : Int) ≤ x ∧ x < ((k + n : Nat) : Int) then p x.toNat else 0) - (if (k : Int) ≤ y ∧ y < ((k + n : Nat) : Int) then p y.toNat else 0)
  | 0, k => by
    rw [if_neg (by omega), if_neg (by omega)]; rfl
  | n + 1, k => by
    show p k * ((if x = (k : Int) then 1 else 0) - (if y = (k : Int) then 1 else 0)) + sf _ (k + 1) n = _
    rw [sf_ind p x y n (k + 1)]
    have aux : ∀ z : Int, (if (k : Int) ≤ z ∧ z < ((k + (n + 1) : Nat) : Int) then p z.toNat else 0) = (if z = (k : Int) then p k else 0) + (if ((k + 1 : Nat) : Int) ≤ z ∧ z < ((k + 1 + n : Nat) : Int) then p z.toNat else 0) := by
      intro z
      by_cases e : z = (k : Int)
      · rw [if_pos (by omega), if_pos e, if_neg (by omega), e, Int.toNat_natCast]; omega
      · rw [if_neg e]
        by_cases e2 : ((k + 1 : Nat) : Int) ≤ z ∧ z < ((k + 1 + n : Nat) : Int)
        · rw [if_pos e2, if_pos (by omega)]; omega
        · rw [if_neg e2, if_neg (by omega)]; omega
    rw [aux x, aux y, Int.mul_sub]
    have mi : ∀ z : Int, p k * (if z = (k : Int) then 1 else 0) = if z = (k : Int) then p k else 0 := by
      intro z
      split
      · exact Int.mul_one _
      · exact Int.mul_zero _
    rw [mi x, mi y]
    omega
theorem ldp_1 {b : Bk} (hB : BR b) {r : Nat} (hr : r < bM b) (hk : bK b r = 1) (p : Nat → Int) : ldp b p r = p (bL b r).toNat - p (bR b r).toNat := by
  have h1 := (hB.2.2.2.1 r hr).2.2.2.2.2 (by omega)
  unfold ldp
  rw [if_neg (by omega), sf_congr (g := fun t => p t * ((if bL b r = (t : Int) then 1 else 0) - (if bR b r = (t : Int) then 1 else 0))) _ _ (fun i _ _ => by rw [hB.2.2.2.2.2.2.1 r i hr hk]), sf_ind, if_pos (by omega), if_pos (by omega)]
section ML
variable {d : Nat} {Z Y : Nat → Nat → Int} {S : Nat × (Nat → Int32)} {K : jj_Hp → Prop} {Ki : Int → jj_Hp → Prop} {Q : Option Value → jj_Hp → Prop} {b : Bk} {s : SvT}
theorem lX5_isAs {r r2 : Nat} (hB : BR b) (hM : MB Z b) (hr : r < bM b) (hk : bK b r = 0) (h4 : jj_il r2 = 4) : ∀ (n k : Nat) (a3 : Int), k + n = bN b → jj_Ex d mX5_isAs 131 [.ref 27, iv (r : Int), .ref r2, iv (a3 + sf (fun t => Z r2 t * bF b r t) k n), iv ((bN b : Nat) : Int)] [] (jj_h Z Y S) Q → jj_Ex d mX5_isAs 97 [.ref 27, iv (r : Int), .ref r2, iv a3, iv (k : Int)] [] (jj_h Z Y S) Q := by
  obtain ⟨m1, m2, m3, m4, m5⟩ := hM
  have hN := hB.1
  have hm := hB.2.1
  intro n
  induction n with
  | zero =>
    intro k a3 hkn hQ
    refine bX5_isAs_97 (by omega) (by omega) (fun h => ?_) (fun h => by omega)
    rw [show a3 + sf (fun t => Z r2 t * bF b r t) k 0 = a3 from Int.add_zero _, show bN b = k by omega] at hQ
    exact hQ
  | succ n ih =>
    intro k a3 hkn hQ
    refine bX5_isAs_97 (by omega) (by omega) (fun h => by omega) (fun h => bX5_isAs_106 (by omega) (by omega) (by omega) (by omega) ?_)
    have e1 : ((4 * (r : Int)) + (k : Int)).toNat = 4 * r + k := by omega
    rw [e1, Int.toNat_natCast, m5 r k (by omega) (by omega), if_pos ⟨hr, hk⟩]
    refine ih (k + 1) _ (by omega) ?_
    rw [show a3 + bF b r k * Z r2 k + sf (fun t => Z r2 t * bF b r t) (k + 1) n = a3 + sf (fun t => Z r2 t * bF b r t) k (n + 1) by
      show _ = a3 + (Z r2 k * bF b r k + sf (fun t => Z r2 t * bF b r t) (k + 1) n)
      rw [Int.mul_comm (bF b r k)]; omega]
    exact hQ
theorem kX5_isAs {r r2 : Nat} (hB : BR b) (hM : MB Z b) (hr : r < bM b) (h4 : jj_il r2 = 4) (hp : bd (bN b) (Z r2)) (k1 : ldp b (Z r2) r ≤ bI b r → Ki 1 (jj_h Z Y S)) (k0 : ¬ ldp b (Z r2) r ≤ bI b r → Ki 0 (jj_h Z Y S)) : jj_Ci d mX5_isAs [.ref 27, iv (r : Int), .ref r2] (jj_h Z Y S) Ki := by
  have hM' := hM
  obtain ⟨m1, m2, m3, m4, m5⟩ := hM
  have hN := hB.1
  have hm := hB.2.1
  obtain ⟨g1, g2, g3, g4⟩ := m4 r hr
  obtain ⟨a1, a2, a3, a4, a5, a6⟩ := hB.2.2.2.1 r hr
  have e2 : ((r : Int)).toNat = r := by omega
  refine nX5_isAs (bX5_isAs_0 (by omega) (by omega) (by rw [e2]; omega) (fun h => ?_) (fun h => ?_))
  · rw [e2] at h
    refine bX5_isAs_42 (by omega) (by omega) (by rw [e2]; omega) (fun h2 => ?_) (fun h2 => ?_)
    · rw [e2] at h2
      have hk : bK b r = 0 := by omega
      refine bX5_isAs_92 (lX5_isAs hB hM' hr hk h4 (bN b) 0 0 (by omega) ?_)
      have el : ldp b (Z r2) r = sf (fun t => Z r2 t * bF b r t) 0 (bN b) := if_neg (by omega)
      have hb := ldp_bound hB hp hr
      rw [Int.zero_add, ← el]
      refine bX5_isAs_131 (by omega) (by omega) (by omega) (by rw [e2]; omega) (fun h3 => bX5_isAs_145 ⟨_, rfl, k0 ?_⟩) (fun h3 => bX5_isAs_141 ⟨_, rfl, k1 ?_⟩)
      · rw [e2] at h3; omega
      · rw [e2] at h3; omega
    · rw [e2] at h2
      have hk : bK b r = 2 := by omega
      have hLR := a6 (by omega)
      obtain ⟨gl, gr⟩ := g4 (by omega)
      have b1 := hp (bL b r).toNat (by omega)
      have b2 := hp (bR b r).toNat (by omega)
      have el : ldp b (Z r2) r = min (Z r2 (bL b r).toNat) (Z r2 (bR b r).toNat) := if_pos hk
      rw [el] at k0 k1
      refine bX5_isAs_52 (by omega) (by omega) (by rw [e2]; omega) (by rw [e2]; omega) (by omega) (by omega) (by rw [e2, gl]; omega) (by rw [e2]; omega) (fun h3 => bX5_isAs_86 ⟨_, rfl, k1 ?_⟩) (fun h3 => bX5_isAs_69 (by omega) (by omega) (by rw [e2]; omega) (by rw [e2]; omega) (by omega) (by omega) (by rw [e2, gr]; omega) (by rw [e2]; omega) (fun h5 => bX5_isAs_90 ⟨_, rfl, k0 ?_⟩) (fun h5 => bX5_isAs_86 ⟨_, rfl, k1 ?_⟩))
      · rw [e2, gl] at h3; omega
      · rw [e2, gl] at h3; rw [e2, gr] at h5; omega
      · rw [e2, gr] at h5; omega
  · rw [e2] at h
    have hk : bK b r = 1 := by omega
    have hLR := a6 (by omega)
    obtain ⟨gl, gr⟩ := g4 (by omega)
    have b1 := hp (bL b r).toNat (by omega)
    have b2 := hp (bR b r).toNat (by omega)
    rw [ldp_1 hB hr hk] at k0 k1
    refine bX5_isAs_10 (by omega) (by omega) (by rw [e2]; omega) (by rw [e2]; omega) (by omega) (by omega) (by rw [e2]; omega) (by rw [e2]; omega) (by omega) (by omega) (by rw [e2, gl, gr]; omega) (by rw [e2]; omega) (fun h3 => bX5_isAs_40 ⟨_, rfl, k0 ?_⟩) (fun h3 => bX5_isAs_36 ⟨_, rfl, k1 ?_⟩)
    · rw [e2, gl, gr] at h3; omega
    · rw [e2, gl, gr] at h3; omega
theorem lX5_fits (hB : BR b) (hM : MB Z b) (hp : bd (bN b) (Z 37)) : ∀ (n r : Nat), r + n = bM b → (∀ q, q < r → ldp b (Z 37) q ≤ lim0 b q) → (fit b (lim0 b) (Z 37) → Q (some (iv 1)) (jj_h Z Y S)) → (¬ fit b (lim0 b) (Z 37) → Q (some (iv 0)) (jj_h Z Y S)) → jj_Ex (d + 1) mX5_fits 2 [.ref 27, .ref 37, iv (r : Int)] [] (jj_h Z Y S) Q := by
  have hm := hB.2.1
  have m2 := hM.2.1
  intro n
  induction n with
  | zero =>
    intro r hr hq k1 k0
    exact bX5_fits_2 (by omega) (by omega) (fun h => bX5_fits_36 (k1 (fun q hq' => hq q (by omega)))) (fun h => by omega)
  | succ n ih =>
    intro r hr hq k1 k0
    have e2 : ((r : Int)).toNat = r := by omega
    have hO := (hB.2.2.2.1 r (by omega)).2.2.2.2.1
    have h34 := (hM.2.2.2.1 r (by omega)).2.2.1
    have nx : ldp b (Z 37) r ≤ lim0 b r → jj_Ex (d + 1) mX5_fits 30 [.ref 27, .ref 37, iv (r : Int)] [] (jj_h Z Y S) Q := fun hle => bX5_fits_30 (ih (r + 1) (by omega) (fun q hq' => by
      by_cases e : q = r
      · subst e; exact hle
      · exact hq q (by omega)) k1 k0)
    refine bX5_fits_2 (by omega) (by omega) (fun h => by omega) (fun h => bX5_fits_10 (by omega) (by omega) (by rw [e2]; omega) (fun h2 => nx ?_) (fun h2 => bX5_fits_19 (kX5_isAs hB hM (by omega) rfl hp (fun h3 => bX5_fits_25 (by omega) (fun h4 => nx ?_) (fun h4 => by omega)) (fun h3 => bX5_fits_25 (by omega) (fun h4 => by omega) (fun h4 => bX5_fits_28 (k0 ?_))))))
    · rw [e2] at h2
      unfold lim0
      rw [if_pos (by omega)]
      have := ldp_bound hB hp (r := r) (by omega)
      omega
    · rw [e2] at h2
      unfold lim0
      rw [if_neg (by omega)]; exact h3
    · intro hf
      have := hf r (by omega)
      rw [e2] at h2
      unfold lim0 at this
      rw [if_neg (by omega)] at this
      exact h3 this
theorem kX5_fits (hB : BR b) (hM : MB Z b) (hp : bd (bN b) (Z 37)) (k1 : fit b (lim0 b) (Z 37) → Ki 1 (jj_h Z Y S)) (k0 : ¬ fit b (lim0 b) (Z 37) → Ki 0 (jj_h Z Y S)) : jj_Ci (d + 1) mX5_fits [.ref 27, .ref 37] (jj_h Z Y S) Ki :=
  nX5_fits (bX5_fits_0 (lX5_fits hB hM hp (bM b) 0 (by omega) (fun q hq => by omega) (fun h => ⟨_, rfl, k1 h⟩) (fun h => ⟨_, rfl, k0 h⟩)))
theorem lX5_valueOf {r1 : Nat} (hB : BR b) (hM : MB Z b) (h4 : jj_il r1 = 4) : ∀ (n k : Nat) (a2 : Int), k + n = bN b → Q (some (iv (a2 + sf (fun t => Z r1 t * bW b t) k n))) (jj_h Z Y S) → jj_Ex d mX5_valueOf 4 [.ref 27, .ref r1, iv a2, iv (k : Int)] [] (jj_h Z Y S) Q := by
  obtain ⟨m1, m2, m3, m4, m5⟩ := hM
  have hN := hB.1
  intro n
  induction n with
  | zero =>
    intro k a2 hkn hQ
    refine bX5_valueOf_4 (by omega) (by omega) (fun h => bX5_valueOf_31 ?_) (fun h => by omega)
    rw [show a2 + sf (fun t => Z r1 t * bW b t) k 0 = a2 from Int.add_zero _] at hQ
    exact hQ
  | succ n ih =>
    intro k a2 hkn hQ
    refine bX5_valueOf_4 (by omega) (by omega) (fun h => by omega) (fun h => bX5_valueOf_12 (by omega) (by omega) (by omega) (by omega) ?_)
    rw [Int.toNat_natCast, (m3 k (by omega)).1]
    refine ih (k + 1) _ (by omega) ?_
    rw [show a2 + bW b k * Z r1 k + sf (fun t => Z r1 t * bW b t) (k + 1) n = a2 + sf (fun t => Z r1 t * bW b t) k (n + 1) by
      show _ = a2 + (Z r1 k * bW b k + sf (fun t => Z r1 t * bW b t) (k + 1) n)
      rw [Int.mul_comm (bW b k)]; omega]
    exact hQ
theorem kX5_valueOf {r1 : Nat} (hB : BR b) (hM : MB Z b) (h4 : jj_il r1 = 4) (k : Ki (vlp b (Z r1)) (jj_h Z Y S)) : jj_Ci d mX5_valueOf [.ref 27, .ref r1] (jj_h Z Y S) Ki :=
  nX5_valueOf (bX5_valueOf_0 (lX5_valueOf hB hM h4 (bN b) 0 0 (by omega) ⟨_, rfl, by rw [Int.zero_add]; exact k⟩))
def MK (b : Bk) (Z : Nat → Nat → Int) (s : SvT) : Prop := Z 27 12 = s.1 ∧ Z 27 13 = s.2.1 ∧ Z 27 16 = s.2.2.1 ∧ (∀ t, t < bN b → Z 38 t = s.2.2.2.1 t ∧ Z 39 t = s.2.2.2.2.1 t)
theorem lX5_take1 {v : Int} (hB : BR b) (hn : Z 27 0 = (bN b : Nat)) : ∀ (n k : Nat) (Z' : Nat → Nat → Int), k + n = bN b → fr (fun q => ¬ (q = 38 ∨ q = 39)) Z Z' → (∀ t, t < k → Z' 38 t = Z 37 t ∧ Z' 39 t = 1) → (∀ Z'', fr (fun q => ¬ (q = 38 ∨ q = 39)) Z Z'' → (∀ t, t < bN b → Z'' 38 t = Z 37 t ∧ Z'' 39 t = 1) → Q none (jj_h Z'' Y S)) → jj_Ex d mX5_take 67 [.ref 27, iv v, iv 1, iv (k : Int)] [] (jj_h Z' Y S) Q := by
  have hN := hB.1
  intro n
  induction n with
  | zero =>
    intro k Z' hk hf hv hQ
    have e1 : Z' 27 0 = (bN b : Nat) := (hf 27 (by omega) 0).trans hn
    exact bX5_take_67 (by omega) (by omega) (fun h => bX5_take_145 (hQ Z' hf (fun j hj => hv j (by omega)))) (fun h => by omega)
  | succ n ih =>
    intro k Z' hk hf hv hQ
    have e1 : Z' 27 0 = (bN b : Nat) := (hf 27 (by omega) 0).trans hn
    have e2 : ((k : Int)).toNat = k := by omega
    refine bX5_take_67 (by omega) (by omega) (fun h => by omega) (fun h => bX5_take_75 (by omega) (fun h => by omega) (fun h => bX5_take_84 (by omega) (by omega) (by omega) (by omega) (by omega) (fun h => bX5_take_133 (by omega) (by omega) ?_) (fun h => by omega)))
    rw [e2, hf 37 (by omega) k]
    refine ih (k + 1) _ (by omega) (fun q hq j => by rw [zu_ne (by omega), zu_ne (by omega)]; exact hf q hq j) (fun t ht => ?_) hQ
    by_cases e : t = k
    · subst e; rw [zu_ne (show ¬ 38 = 39 by omega), zu_at, zu_at]; exact ⟨rfl, rfl⟩
    · rw [zu_ne (show ¬ 38 = 39 by omega), zu_nk e, zu_nk e, zu_ne (show ¬ 39 = 38 by omega)]; exact hv t (by omega)
theorem lX5_take0 {v : Int} (hB : BR b) (hn : Z 27 0 = (bN b : Nat)) (hr : ∀ t, t < bN b → i32 (Z 37 t) ∧ i32 (Z 38 t) ∧ (Z 39 t = 0 ∨ Z 39 t = 1)) : ∀ (n k : Nat) (Z' : Nat → Nat → Int), k + n = bN b → fr (fun q => ¬ (q = 39 ∨ q = 38)) Z Z' → (∀ t, Z' 38 t = Z 38 t) → (∀ t, t < k → Z' 39 t = if Z 37 t = Z 38 t then Z 39 t else 0) → (∀ t, k ≤ t → Z' 39 t = Z 39 t) → (∀ Z'', fr (fun q => ¬ (q = 39 ∨ q = 38)) Z Z'' → (∀ t, t < bN b → Z'' 38 t = Z 38 t ∧ Z'' 39 t = if Z 37 t = Z 38 t then Z 39 t else 0) → Q none (jj_h Z'' Y S)) → jj_Ex d mX5_take 67 [.ref 27, iv v, iv 0, iv (k : Int)] [] (jj_h Z' Y S) Q := by
  have hN := hB.1
  intro n
  induction n with
  | zero =>
    intro k Z' hk hf h38 hv hw hQ
    have e1 : Z' 27 0 = (bN b : Nat) := (hf 27 (by omega) 0).trans hn
    exact bX5_take_67 (by omega) (by omega) (fun h => bX5_take_145 (hQ Z' hf (fun j hj => ⟨h38 j, hv j (by omega)⟩))) (fun h => by omega)
  | succ n ih =>
    intro k Z' hk hf h38 hv hw hQ
    have e1 : Z' 27 0 = (bN b : Nat) := (hf 27 (by omega) 0).trans hn
    have e2 : ((k : Int)).toNat = k := by omega
    obtain ⟨r1, r2, r3⟩ := hr k (by omega)
    have e39 := hw k (Nat.le_refl _)
    have es : zu Z' 38 k (Z' 38 k) = Z' := by
      funext a j
      by_cases e : a = 38 ∧ j = k
      · obtain ⟨rfl, rfl⟩ := e; exact zu_at
      · exact if_neg e
    have nx : ∀ x : Int, x = (if Z 37 k = Z 38 k then Z 39 k else 0) → jj_Ex d mX5_take 67 [.ref 27, iv v, iv 0, iv ((k : Int) + 1)] [] (jj_h (zu Z' 39 k x) Y S) Q := fun x hx =>
      ih (k + 1) _ (by omega) (fun q hq j => by rw [zu_ne (by omega)]; exact hf q hq j) (fun t => by rw [zu_ne (by omega)]; exact h38 t) (fun t ht => by
        by_cases e : t = k
        · subst e; rw [zu_at, hx]
        · rw [zu_nk e]; exact hv t (by omega)) (fun t ht => by rw [zu_nk (by omega)]; exact hw t (by omega)) hQ
    refine bX5_take_67 (by omega) (by omega) (fun h => by omega) (fun h => bX5_take_75 (by omega) (fun h => ?_) (fun h => by omega))
    refine bX5_take_93 (by omega) (by omega) (by omega) (by omega) (by omega) (fun h => by omega) (fun h => ?_)
    rw [e2, es]
    refine bX5_take_109 (by omega) (by omega) (by rw [e2]; omega) (fun h => bX5_take_137 (by omega) (by omega) ?_) (fun h => bX5_take_118 (by omega) (by omega) (by omega) (by omega) (by rw [e2, hf 37 (by omega)]; exact r1) (by rw [e2, h38]; exact r2) (fun h3 => bX5_take_137 (by omega) (by omega) ?_) (fun h3 => bX5_take_133 (by omega) (by omega) ?_))
    · rw [e2] at h ⊢
      refine nx 0 ?_
      split
      · omega
      · rfl
    · rw [e2, hf 37 (by omega), h38] at h3
      rw [e2]
      exact nx 0 (by rw [if_neg h3])
    · rw [e2, hf 37 (by omega), h38] at h3
      rw [e2] at h ⊢
      exact nx 1 (by rw [if_pos h3]; omega)
def m27 (Z Z' : Nat → Nat → Int) : Prop := ∀ j, ¬ (j = 12 ∨ j = 13 ∨ j = 16 ∨ j = 17) → Z' 27 j = Z 27 j
def tkc (a : Nat) : Prop := ¬ (a = 27 ∨ a = 37 ∨ a = 38 ∨ a = 39)
theorem m27.trans {Z Z' Z'' : Nat → Nat → Int} (h : m27 Z Z') (h' : m27 Z' Z'') : m27 Z Z'' := fun j hj => (h' j hj).trans (h j hj)
theorem mb_tk {Z Z' : Nat → Nat → Int} {b : Bk} (h : MB Z b) (f : fr tkc Z Z') (f' : m27 Z Z') : MB Z' b := h.fr (f.mono (fun a ha => by unfold mbc at ha; unfold tkc; omega)) (f' 0 (by omega)) (f' 3 (by omega))
theorem kX5_take (hB : BR b) (hM : MB Z b) (hp : bd (bN b) (Z 37)) (hK : MK b Z s) (hR : SR b s) (k : ∀ Z', fr tkc Z Z' → m27 Z Z' → (∀ t, Z' 37 t = Z 37 t) → Z' 27 17 = Z 27 17 → MK b Z' (nfS s (Z 37) (vlp b (Z 37))) → K (jj_h Z' Y S)) : jj_Cv (d + 1) mX5_take [.ref 27] (jj_h Z Y S) K := by
  obtain ⟨k1, k2, k3, k4⟩ := id hK
  have hv := vl_bound hB hp
  have h27 := hM.1
  have hg : -1000000 ≤ s.1 ∧ s.1 ≤ 4000 := by
    rcases hR.1 with h | h <;> omega
  have e37 : zu Z 27 16 (Z 27 16 + 1) 37 = Z 37 := by funext t; exact zu_ne (by omega)
  refine nX5_take (bX5_take_0 (kX5_valueOf hB (mb_tk hM (fun a ha j => by unfold tkc at ha; rw [zu_ne (by omega)]) (fun j hj => by rw [zu_nk (by omega)])) rfl ?_))
  rw [e37]
  have g12 : zu Z 27 16 (Z 27 16 + 1) 27 12 = s.1 := by rw [zu_nk (by omega)]; exact k1
  have g13 : zu Z 27 16 (Z 27 16 + 1) 27 13 = s.2.1 := by rw [zu_nk (by omega)]; exact k2
  refine bX5_take_18 (by omega) (by rw [g12]; omega) (fun h => ?_) (fun h => bX5_take_27 ⟨rfl, k _ (fun a ha j => by unfold tkc at ha; rw [zu_ne (by omega)]) (fun j hj => by rw [zu_nk (by omega)]) (fun t => by rw [zu_ne (by omega)]) (by rw [zu_nk (by omega)]) ?_⟩)
  · rw [g12] at h
    refine bX5_take_28 (by omega) (by rw [g12]; omega) (fun h2 => bX5_take_40 ?_) (fun h2 => bX5_take_36 ?_)
    · rw [g12] at h2
      have ev : vlp b (Z 37) = s.1 := by omega
      rw [g13]
      rcases hR.1 with h8 | h8
      · omega
      refine lX5_take0 (b := b) (Z := zu (zu (zu Z 27 16 (Z 27 16 + 1)) 27 12 (vlp b (Z 37))) 27 13 (s.2.1 + 1)) hB ?_ (fun t ht => ?_) (bN b) 0 _ (by omega) fr.rf (fun t => rfl) (fun t ht => by omega) (fun t ht => rfl) (fun Z' f h => ⟨rfl, k Z' (fun a ha j => ?_) (fun j hj => ?_) (fun t => ?_) ?_ ?_⟩)
      · rw [zu_nk (by omega), zu_nk (by omega), zu_nk (by omega)]; exact h27
      · rw [zu_ne (by omega), zu_ne (by omega), zu_ne (by omega), zu_ne (by omega), zu_ne (by omega), zu_ne (by omega), zu_ne (by omega), zu_ne (by omega), zu_ne (by omega), (k4 t ht).1, (k4 t ht).2]
        have := hp t ht
        have := h8.2.2 t ht
        have := hR.2.2.2 t ht
        refine ⟨by omega, by omega, by omega⟩
      · unfold tkc at ha
        rw [f a (by omega), zu_ne (by omega), zu_ne (by omega), zu_ne (by omega)]
      · rw [f 27 (by omega), zu_nk (by omega), zu_nk (by omega), zu_nk (by omega)]
      · rw [f 37 (by omega), zu_ne (by omega), zu_ne (by omega), zu_ne (by omega)]
      · rw [f 27 (by omega), zu_nk (by omega), zu_nk (by omega), zu_nk (by omega)]
      · unfold nfS
        rw [if_neg (by omega), if_pos ev]
        refine ⟨?_, ?_, ?_, fun t ht => ?_⟩
        · rw [f 27 (by omega), zu_nk (by omega), zu_at, ev]; rfl
        · rw [f 27 (by omega), zu_at]; rfl
        · rw [f 27 (by omega), zu_nk (by omega), zu_nk (by omega), zu_at, k3]; rfl
        · rw [(h t ht).1, (h t ht).2, zu_ne (by omega), zu_ne (by omega), zu_ne (by omega), zu_ne (by omega), zu_ne (by omega), zu_ne (by omega), zu_ne (by omega), zu_ne (by omega), zu_ne (by omega), (k4 t ht).1, (k4 t ht).2]; exact ⟨rfl, rfl⟩
    · rw [g12] at h2
      refine lX5_take1 (b := b) (Z := zu (zu (zu Z 27 16 (Z 27 16 + 1)) 27 12 (vlp b (Z 37))) 27 13 1) hB ?_ (bN b) 0 _ (by omega) fr.rf (fun t ht => by omega) (fun Z' f h => ⟨rfl, k Z' (fun a ha j => ?_) (fun j hj => ?_) (fun t => ?_) ?_ ?_⟩)
      · rw [zu_nk (by omega), zu_nk (by omega), zu_nk (by omega)]; exact h27
      · unfold tkc at ha
        rw [f a (by omega), zu_ne (by omega), zu_ne (by omega), zu_ne (by omega)]
      · rw [f 27 (by omega), zu_nk (by omega), zu_nk (by omega), zu_nk (by omega)]
      · rw [f 37 (by omega), zu_ne (by omega), zu_ne (by omega), zu_ne (by omega)]
      · rw [f 27 (by omega), zu_nk (by omega), zu_nk (by omega), zu_nk (by omega)]
      · unfold nfS
        rw [if_pos (by omega)]
        refine ⟨?_, ?_, ?_, fun t ht => ?_⟩
        · rw [f 27 (by omega), zu_nk (by omega), zu_at]; rfl
        · rw [f 27 (by omega), zu_at]; rfl
        · rw [f 27 (by omega), zu_nk (by omega), zu_nk (by omega), zu_at, k3]; rfl
        · rw [(h t ht).1, (h t ht).2, zu_ne (by omega), zu_ne (by omega), zu_ne (by omega)]; exact ⟨rfl, rfl⟩
  · rw [g12] at h
    unfold nfS
    rw [if_neg (by omega), if_neg (by omega)]
    refine ⟨g12, g13, ?_, fun t ht => ?_⟩
    · rw [zu_at, k3]; rfl
    · rw [zu_ne (by omega), zu_ne (by omega)]; exact k4 t ht
end ML

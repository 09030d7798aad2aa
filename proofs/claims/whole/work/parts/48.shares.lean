/-! the reference: the least bound, its fraction, how far it holds -/
section SH
variable {d : Nat} {S : Nat × (Nat → Int32)} {Q : Option Value → jj_Hp → Prop} {K : jj_Hp → Prop} {Ki Kl : Int → jj_Hp → Prop} {b : Bk} {x : Int}
theorem prv_mp {s r : Nat} (hB : BR b) (hN : fp (bt s) (rn b) = bN b) (hr : r < bM b) : prv b s (r : Int) (bN b) = mp b s r := by
  have aux : ∀ i, i ≤ bN b → prv b s (r : Int) i = if cf b r = true ∧ bt s (2 * bN b + fp (cf b) r) = true ∧ fp (bt s) (2 * bN b + fp (cf b) r) < i then my b s (2 * bN b + fp (cf b) r) else 0 := by
    intro i
    induction i with
    | zero => intro _; rw [if_neg (by omega)]; rfl
    | succ i ih =>
      intro hi
      have ih := ih (by omega)
      obtain ⟨g1, g2, g3⟩ : mC b s i < rn b ∧ bt s (mC b s i) = true ∧ fp (bt s) (mC b s i) = i := gd_in (φ := bt s) (n := rn b) (c := i) (by omega)
      show (if rul b (mC b s i) = (r : Int) then yv b s i else prv b s (r : Int) i) = _
      by_cases e : rul b (mC b s i) = (r : Int)
      · rw [if_pos e]
        unfold rul at e
        split at e
        · omega
        · next hge =>
          have hc : mC b s i - 2 * bN b < fp (cf b) (bM b) := by unfold rn at g1; omega
          obtain ⟨w1, w2, w3⟩ := gd_in hc
          have er : gd (cf b) (bM b) (mC b s i - 2 * bN b) = r := by omega
          rw [er] at w2 w3
          have ek : 2 * bN b + fp (cf b) r = mC b s i := by omega
          rw [ek, if_pos ⟨w2, g2, by rw [g3]; omega⟩]
          unfold my yv
          rw [if_pos g2, g3]
      · rw [if_neg e, ih]
        by_cases c : cf b r = true ∧ bt s (2 * bN b + fp (cf b) r) = true
        · have hne : ¬ fp (bt s) (2 * bN b + fp (cf b) r) = i := by
            intro z
            have := gd_at c.2 (n := rn b) (by unfold rn; have := fp_lt c.1 hr; omega)
            rw [z] at this
            refine e ?_
            unfold mC
            rw [this]
            exact rul_r b hr c.1
          by_cases l : fp (bt s) (2 * bN b + fp (cf b) r) < i
          · rw [if_pos ⟨c.1, c.2, l⟩, if_pos ⟨c.1, c.2, by omega⟩]
          · rw [if_neg (fun z => l z.2.2), if_neg (fun z => l (by omega))]
        · rw [if_neg (fun z => c ⟨z.1, z.2.1⟩), if_neg (fun z => c ⟨z.1, z.2.1⟩)]
  rw [aux (bN b) (Nat.le_refl _)]
  unfold mp
  by_cases c : cf b r = true
  · rw [if_pos c]
    by_cases c2 : bt s (2 * bN b + fp (cf b) r) = true
    · rw [if_pos ⟨c, c2, by have := fp_lt c2 (show 2 * bN b + fp (cf b) r < rn b by unfold rn; have := fp_lt c hr; omega); omega⟩]
    · rw [if_neg (fun z => c2 z.2.1)]
      unfold my
      rw [if_neg c2]
  · rw [if_neg c, if_neg (fun z => c z.1)]
theorem yv_in {s : Nat} (hB : BR b) (hv : RV b s) {i : Nat} (hi : i < bN b) : 0 ≤ yv b s i ∧ yv b s i ≤ 1732104 := by
  have := (mN_b (s := s) hB i).sg (mD b s)
  unfold bdd at this
  have := hv.2.2 i hi
  unfold yv
  omega
theorem prv_in {s : Nat} (hB : BR b) (hv : RV b s) (x : Int) : ∀ i, i ≤ bN b → 0 ≤ prv b s x i ∧ prv b s x i ≤ 1732104
  | 0, _ => by show (0 : Int) ≤ 0 ∧ (0 : Int) ≤ 1732104; omega
  | i + 1, h => by
    have := prv_in hB hv x i (by omega)
    have := yv_in hB hv (i := i) (by omega)
    show 0 ≤ (if rul b (mC b s i) = x then yv b s i else prv b s x i) ∧ (if rul b (mC b s i) = x then yv b s i else prv b s x i) ≤ 1732104
    split <;> omega
theorem mbl_in {s : Nat} (hB : BR b) (hv : RV b s) : 0 < mbl b s ∧ mbl b s ≤ 157464 := by
  have h1 := sgn_pos hv.2.1
  have h2 := (mD_b (s := s) hB).sg (mD b s)
  unfold bdd at h2
  unfold mbl
  omega
theorem msum_in {s : Nat} (hB : BR b) (hv : RV b s) : 0 ≤ msum b s ∧ msum b s ≤ 15000000000 := by
  have h4 := hB.1
  have aux : ∀ n, n ≤ bN b → 0 ≤ sf (fun i => yv b s i * bnd b (mC b s i)) 0 n ∧ sf (fun i => yv b s i * bnd b (mC b s i)) 0 n ≤ 1730371896 * n := by
    intro n
    induction n with
    | zero => intro _; show (0 : Int) ≤ 0 ∧ (0 : Int) ≤ 0; omega
    | succ n ih =>
      intro hn
      have ih := ih (by omega)
      have hm : mC b s n < rn b := (gd_in (φ := bt s) (n := rn b) (c := n) (by rw [hv.1]; omega)).1
      have := mul_in (yv_in hB hv (i := n) (by omega)) (bnd_in hB hm)
      rw [sf_one]
      omega
  have := aux (bN b) (Nat.le_refl _)
  have e : msum b s = sf (fun i => yv b s i * bnd b (mC b s i)) 0 (bN b) := rfl
  omega
/-- products of such numbers fit -/
theorem se_in {u v : Int} (hu : 0 ≤ u ∧ u ≤ 15000000000) (hv : 0 < v ∧ v ≤ 157464) : 0 ≤ u * v ∧ u * v ≤ 2361960000000000 := by
  have := mul_in hu (show 0 ≤ v ∧ v ≤ 157464 by omega)
  omega
theorem pe_in {u v : Int} (hu : 0 ≤ u ∧ u ≤ 1732104) (hv : 0 < v ∧ v ≤ 157464) : 0 ≤ u * v ∧ u * v ≤ 272744024256 := by
  have := mul_in hu (show 0 ≤ v ∧ v ≤ 157464 by omega)
  omega
def shc (a : Nat) : Prop := ¬ (a = 27 ∨ (41 ≤ a ∧ a ≤ 44))
def m19c (Z Z' : Nat → Nat → Int) : Prop := fr shc Z Z' ∧ ∀ j, ¬ j = 19 → Z' 27 j = Z 27 j
def ysh (Y Y' : Nat → Nat → Int) : Prop := fr (fun a => ¬ (a = 27 ∨ a = 45)) Y Y'
/-- the least so far -/
def Lst (b : Bk) (x : Int) (c s : Nat) (Y : Nat → Nat → Int) : Prop := s < c ∧ RV b s ∧ Y 27 28 = msum b s ∧ Y 27 29 = prv b s x (bN b) ∧ Y 27 30 = mbl b s ∧ ∀ s', s' < c → RV b s' → qle (msum b s) (prv b s x (bN b)) (mbl b s) (msum b s') (prv b s' x (bN b)) (mbl b s')
theorem rs_44 {Z Z' : Nat → Nat → Int} (hM : MB Z b) (hR : RS b Z (rn b)) (f : fr (fun a => ¬ a = 44) Z Z') : MB Z' b ∧ RS b Z' (rn b) := by
  refine ⟨hM.fr (f.mono (fun a ha => by unfold mbc at ha; omega)) (f 27 (by omega) 0) (f 27 (by omega) 3), ⟨by rw [f 27 (by omega)]; exact hR.1, fun k hk => ?_⟩⟩
  obtain ⟨a1, a2, a3⟩ := hR.2 k hk
  exact ⟨fun t ht => by rw [f 41 (by omega)]; exact a1 t ht, by rw [f 42 (by omega)]; exact a2, by rw [f 43 (by omega)]; exact a3⟩
theorem lX5_shares11 {Z0 Y0 : Nat → Nat → Int} (hB : BR b) (hx : i32 x) (hex : ∃ s, s < 2 ^ rn b ∧ RV b s) (k : ∀ Z' Y' s, MB Z' b → RS b Z' (rn b) → m19c Z0 Z' → ysh Y0 Y' → Lst b x (2 ^ rn b) s Y' → Q none (jj_h Z' Y' S)) : ∀ (n c : Nat) (Z Y : Nat → Nat → Int) (v3 v4 : Value), c + n = 2 ^ rn b → MB Z b → RS b Z (rn b) → m19c Z0 Z → ysh Y0 Y → ((Y 27 30 = 0 ∧ ∀ s, s < c → ¬ RV b s) ∨ ∃ s, Lst b x c s Y) → jj_Ex (d + 2) mX5_shares 11 [.ref 27, iv x, iv (c : Int), v3, v4] [] (jj_h Z Y S) Q := by
  have r14 := rn_le hB
  have p14 : 2 ^ rn b ≤ 2 ^ 14 := Nat.pow_le_pow_right (by omega) r14
  intro n
  induction n with
  | zero =>
    intro c Z Y v3 v4 hc hM hR f g h
    have e19 := hR.1
    have e1 : (Z 27 19).toNat = rn b := by omega
    refine bX5_shares_11 (by omega) (by omega) (by omega) (by rw [e1]; generalize 2 ^ rn b = z at *; omega) (fun _ => bX5_shares_126 ?_) (fun z => ?_)
    · rcases h with ⟨h1, h2⟩ | ⟨s, hs⟩
      · obtain ⟨s, a1, a2⟩ := hex
        exact absurd a2 (h2 s (by omega))
      · rw [show c = 2 ^ rn b by omega] at hs
        exact k Z Y s hM hR f g hs
    · rw [e1] at z
      generalize 2 ^ rn b = y at *
      omega
  | succ n ih =>
    intro c Z Y v3 v4 hc hM hR f g h
    have e19 := hR.1
    have e1 : (Z 27 19).toNat = rn b := by omega
    refine bX5_shares_11 (by omega) (by omega) (by omega) (by rw [e1]; generalize 2 ^ rn b = z at *; omega) (fun z => ?_) (fun _ => bX5_shares_21 (kX5_isPriced hB hM hR (by omega) hx (fun hv Z1 Y1 f1 g1 z1 z2 z3 => bX5_shares_27 (by omega) (fun _ => ?_) (fun z => by omega)) (fun hv Z1 Y1 f1 g1 => bX5_shares_27 (by omega) (fun z => absurd rfl z) (fun _ => bX5_shares_30 ?_))))
    · rw [e1] at z
      generalize 2 ^ rn b = y at *
      omega
    · -- a base
      have f' : m19c Z0 Z1 := ⟨f.1.trans (f1.mono (fun a ha => by unfold shc at ha; omega)), fun j hj => by rw [f1 27 (by omega)]; exact f.2 j hj⟩
      obtain ⟨hM1, hR1⟩ := rs_44 hM hR f1
      have g' : ysh Y0 Y1 := g.trans g1.1
      have be := mbl_in hB hv
      have su := msum_in hB hv
      have pr := prv_in hB hv x (bN b) (Nat.le_refl _)
      have e28 := g1.2 28 (by omega)
      have e29 := g1.2 29 (by omega)
      have e30 := g1.2 30 (by omega)
      have take : (∀ s', s' < c → RV b s' → qle (msum b c) (prv b c x (bN b)) (mbl b c) (msum b s') (prv b s' x (bN b)) (mbl b s')) → ∀ a3 : Int, jj_Ex (d + 2) mX5_shares 96 [.ref 27, iv x, iv (c : Int), lv a3, .null] [] (jj_h Z1 Y1 S) Q := by
        intro hq a3
        refine bX5_shares_96 (ih (c + 1) Z1 _ _ _ (by omega) hM1 hR1 f' (fun a ha j => by rw [zu_ne (by omega), zu_ne (by omega), zu_ne (by omega)]; exact g' a ha j) (Or.inr ⟨c, by omega, hv, ?_, ?_, ?_, fun s' hs' hv' => ?_⟩))
        · rw [zu_nk (by omega), zu_nk (by omega), zu_at, z2]
        · rw [zu_nk (by omega), zu_at, z3]
        · rw [zu_at, z1]
        · by_cases e : s' = c
          · subst e; exact Or.inr ⟨rfl, Int.le_refl _⟩
          · exact hq s' (by omega) hv'
      rcases h with ⟨h1, h2⟩ | ⟨s, hs⟩
      · refine bX5_shares_33 (by rw [e30, h1]; omega) (fun _ => take (fun s' hs' hv' => absurd hv' (h2 s' hs')) _) (fun z => by rw [e30] at z; exact absurd h1 z)
      · obtain ⟨a1, a2, a3, a4, a5, a6⟩ := hs
        have be' := mbl_in hB a2
        have su' := msum_in hB a2
        have pr' := prv_in hB a2 x (bN b) (Nat.le_refl _)
        have b1 := se_in su be'
        have b2 := se_in su' be
        have b3 := pe_in pr be'
        have b4 := pe_in pr' be
        have keep : qle (msum b s) (prv b s x (bN b)) (mbl b s) (msum b c) (prv b c x (bN b)) (mbl b c) → ∀ v3 v4, jj_Ex (d + 2) mX5_shares 120 [.ref 27, iv x, iv (c : Int), v3, v4] [] (jj_h Z1 Y1 S) Q := by
          intro hq v3 v4
          refine bX5_shares_120 (ih (c + 1) Z1 Y1 _ _ (by omega) hM1 hR1 f' g' (Or.inr ⟨s, by omega, a2, by rw [e28]; exact a3, by rw [e29]; exact a4, by rw [e30]; exact a5, fun s' hs' hv' => ?_⟩))
          by_cases e : s' = c
          · subst e; exact hq
          · exact a6 s' (by omega) hv'
        have trans : qle (msum b c) (prv b c x (bN b)) (mbl b c) (msum b s) (prv b s x (bN b)) (mbl b s) → ∀ s', s' < c → RV b s' → qle (msum b c) (prv b c x (bN b)) (mbl b c) (msum b s') (prv b s' x (bN b)) (mbl b s') := fun hq s' hs' hv' => qle_trans (by omega) (by omega) (mbl_in hB hv').1 hq (a6 s' hs' hv')
        refine bX5_shares_33 (by rw [e30, a5]; omega) (fun z => by rw [e30, a5] at z; omega) (fun _ => ?_)
        rw [z1, z2, e28, e30, a3, a5]
        refine bX5_shares_62 (by omega) (fun e => take (trans (Or.inl (by omega))) _) (fun e => bX5_shares_68 (by omega) (fun e2 => keep (Or.inl (by omega)) _ _) (fun e2 => bX5_shares_74 ?_ ?_ (fun e3 => keep (Or.inr ⟨by omega, ?_⟩) _ _) (fun e3 => take (trans (Or.inr ⟨by omega, ?_⟩)) _)))
        · rw [z3, e30, a5]; omega
        · rw [z1, e29, a4]; omega
        · rw [z1, z3, e29, e30, a4, a5] at e3; omega
        · rw [z1, z3, e29, e30, a4, a5] at e3; omega
    · -- no base
      have f' : m19c Z0 Z1 := ⟨f.1.trans (f1.mono (fun a ha => by unfold shc at ha; omega)), fun j hj => by rw [f1 27 (by omega)]; exact f.2 j hj⟩
      obtain ⟨hM1, hR1⟩ := rs_44 hM hR f1
      refine ih (c + 1) Z1 Y1 _ _ (by omega) hM1 hR1 f' (g.trans g1.1) ?_
      rcases h with ⟨h1, h2⟩ | ⟨s, a1, a2, a3, a4, a5, a6⟩
      · refine Or.inl ⟨by rw [g1.2 30 (by omega)]; exact h1, fun s hs hv' => ?_⟩
        by_cases e : s = c
        · subst e; exact hv hv'
        · exact h2 s (by omega) hv'
      · refine Or.inr ⟨s, by omega, a2, by rw [g1.2 28 (by omega)]; exact a3, by rw [g1.2 29 (by omega)]; exact a4, by rw [g1.2 30 (by omega)]; exact a5, fun s' hs' hv' => ?_⟩
        by_cases e : s' = c
        · subst e; exact absurd hv' hv
        · exact a6 s' (by omega) hv'
theorem kX5_shares {Z Y : Nat → Nat → Int} (hB : BR b) (hM : MB Z b) (h31 : ∀ r, r < bM b → i32 (Z 31 r) ∧ i32 (Z 32 r)) (hx : i32 x) (hex : ∃ s, s < 2 ^ rn b ∧ RV b s) (k : ∀ Z' Y' s, MB Z' b → RS b Z' (rn b) → m19c Z Z' → ysh Y Y' → Lst b x (2 ^ rn b) s Y' → K (jj_h Z' Y' S)) : jj_Cv (d + 2) mX5_shares [.ref 27, iv x] (jj_h Z Y S) K :=
  nX5_shares (bX5_shares_0 (kX5_rowsNow hB hM h31 (fun Z1 hM1 f1 hR1 => bX5_shares_4 (lX5_shares11 (Z0 := Z) (Y0 := Y) hB hx hex (fun Z2 Y2 s hM2 hR2 f2 g2 hL => ⟨rfl, k Z2 Y2 s hM2 hR2 f2 g2 hL⟩) (2 ^ rn b) 0 Z1 _ _ _ (by omega) hM1 hR1 ⟨f1.1.mono (fun a ha => by unfold shc at ha; unfold rwc; omega), f1.2⟩ (fun a ha j => by rw [zu_ne (by omega)]) (Or.inl ⟨zu_at, fun s hs => by omega⟩)))))
theorem lX5_part {Z Y : Nat → Nat → Int} {n e below : Int} (hn : 0 ≤ n ∧ n ≤ 9000000000000000000) (he : 0 < e ∧ e ≤ 9000000000000000000) (hb : below = 0 ∨ below = 1) : ∀ (m a c : Nat) (v9 v10 : Value), c ≤ m → a ≤ 9000000000000000000 → c ≤ 9000000000000000000 → 0 < Nat.gcd a c → (below = 0 → Q (some (lv (n / ((Nat.gcd a c : Nat) : Int)))) (jj_h Z Y S)) → (¬ below = 0 → Q (some (lv (e / ((Nat.gcd a c : Nat) : Int)))) (jj_h Z Y S)) → jj_Ex d mX5_part 6 [lv n, .null, lv e, .null, iv below, lv (a : Int), .null, lv (c : Int), .null, v9, v10] [] (jj_h Z Y S) Q := by
  intro m
  induction m with
  | zero =>
    intro a c v9 v10 hc ha hc2 hg k0 k1
    have : c = 0 := by omega
    subst this
    rw [Nat.gcd_zero_right] at hg k0 k1
    exact bX5_part_6 (by omega) (fun _ => bX5_part_31 (by omega) (fun p => bX5_part_43 (by omega) (by omega) (k0 p)) (fun p => bX5_part_36 (by omega) (by omega) (k1 p))) (fun z => absurd rfl z)
  | succ m ih =>
    intro a c v9 v10 hc ha hc2 hg k0 k1
    by_cases c0 : c = 0
    · subst c0
      rw [Nat.gcd_zero_right] at hg k0 k1
      exact bX5_part_6 (by omega) (fun _ => bX5_part_31 (by omega) (fun p => bX5_part_43 (by omega) (by omega) (k0 p)) (fun p => bX5_part_36 (by omega) (by omega) (k1 p))) (fun z => absurd rfl z)
    · have e1 : Nat.gcd a c = Nat.gcd c (a % c) := by rw [Nat.gcd_comm a c, Nat.gcd_rec, Nat.gcd_comm]
      have hr := Nat.mod_lt a (show 0 < c by omega)
      rw [e1] at hg k0 k1
      refine bX5_part_6 (by omega) (fun z => by omega) (fun _ => bX5_part_13 (by omega) (by omega) ?_)
      rw [show (a : Int) % (c : Int) = ((a % c : Nat) : Int) from rfl]
      exact ih c (a % c) _ _ (by omega) hc2 (by omega) hg k0 k1
theorem kX5_part {Z Y : Nat → Nat → Int} {n e below : Int} (hn : 0 ≤ n ∧ n ≤ 9000000000000000000) (he : 0 < e ∧ e ≤ 9000000000000000000) (hb : below = 0 ∨ below = 1) (k : Kl (lowt n e below) (jj_h Z Y S)) : jj_Cl d mX5_part [lv n, lv e, iv below] (jj_h Z Y S) Kl := by
  refine nX5_part (bX5_part_0 ?_)
  obtain ⟨a, rfl⟩ := Int.eq_ofNat_of_zero_le hn.1
  obtain ⟨c, rfl⟩ := Int.eq_ofNat_of_zero_le (show 0 ≤ e by omega)
  unfold lowt at k
  simp only [Int.toNat_natCast] at k
  refine lX5_part hn he hb c a c _ _ (Nat.le_refl _) (by omega) (by omega) (Nat.gcd_pos_of_pos_right a (by omega)) (fun p => ⟨_, rfl, ?_⟩) (fun p => ⟨_, rfl, ?_⟩)
  · rw [if_pos p] at k; exact k
  · rw [if_neg p] at k; exact k
/-- how far: the numbers of one base against the least one -/
def nmr (b : Bk) (s s' : Nat) : Int := msum b s' * mbl b s - msum b s * mbl b s'
def dnr (b : Bk) (x : Int) (s s' : Nat) : Int := prv b s x (bN b) * mbl b s' - prv b s' x (bN b) * mbl b s
theorem lX5_holds23 {Z0 Y0 : Nat → Nat → Int} {s : Nat} (hB : BR b) (hx : i32 x) (k : ∀ Z' Y' (m : Int), m19c Z0 Z' → ysh Y0 Y' → (0 ≤ m ∧ m ≤ 400) → (∀ s', s' < 2 ^ rn b → RV b s' → 0 < dnr b x s s' → m ≤ nmr b s s' / dnr b x s s') → (m = 400 ∨ ∃ s', s' < 2 ^ rn b ∧ RV b s' ∧ 0 < dnr b x s s' ∧ m = nmr b s s' / dnr b x s s') → Q (some (iv m)) (jj_h Z' Y' S)) : ∀ (n c : Nat) (Z Y : Nat → Nat → Int) (m : Int) (v5 v6 : Value), c + n = 2 ^ rn b → MB Z b → RS b Z (rn b) → m19c Z0 Z → ysh Y0 Y → Lst b x (2 ^ rn b) s Y → (0 ≤ m ∧ m ≤ 400) → (∀ s', s' < c → RV b s' → 0 < dnr b x s s' → m ≤ nmr b s s' / dnr b x s s') → (m = 400 ∨ ∃ s', s' < c ∧ RV b s' ∧ 0 < dnr b x s s' ∧ m = nmr b s s' / dnr b x s s') → jj_Ex (d + 2) mX5_holds 23 [.ref 27, iv x, lv m, .null, iv (c : Int), v5, v6] [] (jj_h Z Y S) Q := by
  have r14 := rn_le hB
  have p14 : 2 ^ rn b ≤ 2 ^ 14 := Nat.pow_le_pow_right (by omega) r14
  intro n
  induction n with
  | zero =>
    intro c Z Y m v5 v6 hc hM hR f g hL hm h1 h2
    have e19 := hR.1
    have e1 : (Z 27 19).toNat = rn b := by omega
    refine bX5_holds_23 (by omega) (by omega) (by omega) (by rw [e1]; generalize 2 ^ rn b = z at *; omega) (fun _ => bX5_holds_127 ?_) (fun z => ?_)
    · rw [show c = 2 ^ rn b by omega] at h1 h2
      exact k Z Y m f g hm h1 h2
    · rw [e1] at z
      generalize 2 ^ rn b = y at *
      omega
  | succ n ih =>
    intro c Z Y m v5 v6 hc hM hR f g hL hm h1 h2
    have e19 := hR.1
    have e1 : (Z 27 19).toNat = rn b := by omega
    have wk2 : (m = 400 ∨ ∃ s', s' < c + 1 ∧ RV b s' ∧ 0 < dnr b x s s' ∧ m = nmr b s s' / dnr b x s s') := by
      rcases h2 with h2 | ⟨s', a, b', c', e'⟩
      · exact Or.inl h2
      · exact Or.inr ⟨s', by omega, b', c', e'⟩
    refine bX5_holds_23 (by omega) (by omega) (by omega) (by rw [e1]; generalize 2 ^ rn b = z at *; omega) (fun z => ?_) (fun _ => bX5_holds_34 (kX5_isPriced hB hM hR (by omega) hx (fun hv Z1 Y1 f1 g1 z1 z2 z3 => bX5_holds_41 (by omega) (fun z => by omega) (fun _ => ?_)) (fun hv Z1 Y1 f1 g1 => bX5_holds_41 (by omega) (fun _ => bX5_holds_121 ?_) (fun z => absurd rfl z))))
    · rw [e1] at z
      generalize 2 ^ rn b = y at *
      omega
    all_goals
      have f' : m19c Z0 Z1 := ⟨f.1.trans (f1.mono (fun a ha => by unfold shc at ha; omega)), fun j hj => by rw [f1 27 (by omega)]; exact f.2 j hj⟩
      obtain ⟨hM1, hR1⟩ := rs_44 hM hR f1
      have g' : ysh Y0 Y1 := g.trans g1.1
      obtain ⟨a1, a2, a3, a4, a5, a6⟩ := id hL
      have hL1 : Lst b x (2 ^ rn b) s Y1 := ⟨a1, a2, by rw [g1.2 28 (by omega)]; exact a3, by rw [g1.2 29 (by omega)]; exact a4, by rw [g1.2 30 (by omega)]; exact a5, a6⟩
    · have be := mbl_in hB hv
      have su := msum_in hB hv
      have pr := prv_in hB hv x (bN b) (Nat.le_refl _)
      have be' := mbl_in hB a2
      have su' := msum_in hB a2
      have pr' := prv_in hB a2 x (bN b) (Nat.le_refl _)
      have b1 := se_in su be'
      have b2 := se_in su' be
      have b3 := pe_in pr be'
      have b4 := pe_in pr' be
      have hq := a6 c (by omega) hv
      have hnm : 0 ≤ nmr b s c ∧ nmr b s c ≤ 2361960000000000 := by
        unfold nmr
        rcases hq with hq | hq <;> omega
      have hdn : dnr b x s c ≤ 272744024256 := by unfold dnr; omega
      obtain ⟨q3, q4, q5⟩ : Y1 27 28 = msum b s ∧ Y1 27 29 = prv b s x (bN b) ∧ Y1 27 30 = mbl b s := ⟨hL1.2.2.1, hL1.2.2.2.1, hL1.2.2.2.2.1⟩
      refine bX5_holds_44 (by rw [z3, q5]; omega) (by rw [z1, q4]; omega) (fun e => bX5_holds_121 (ih (c + 1) Z1 Y1 m _ _ (by omega) hM1 hR1 f' g' hL1 hm (fun s' hs' hv' hd => ?_) wk2)) (fun e => ?_)
      · by_cases es : s' = c
        · subst es
          rw [z1, z3, q4, q5] at e
          unfold dnr at hd
          omega
        · exact h1 s' (by omega) hv' hd
      · rw [z1, z3, q4, q5] at e
        have hd : 0 < dnr b x s c := by unfold dnr; omega
        have q0 : 0 ≤ nmr b s c / dnr b x s c := Int.ediv_nonneg hnm.1 (by omega)
        have q1 : nmr b s c / dnr b x s c ≤ nmr b s c := Int.ediv_le_self _ hnm.1
        have en : Y1 27 25 * Y1 27 30 - Y1 27 28 * Y1 27 27 = nmr b s c := by rw [z1, z2, q3, q5]; rfl
        have ed : Y1 27 29 * Y1 27 27 - Y1 27 26 * Y1 27 30 = dnr b x s c := by rw [z1, z3, q4, q5]; rfl
        refine bX5_holds_66 (by rw [en]; omega) (by rw [ed]; omega) (by rw [en, ed]; omega) (by omega) (fun e2 => bX5_holds_119 (ih (c + 1) Z1 Y1 m _ _ (by omega) hM1 hR1 f' g' hL1 hm (fun s' hs' hv' hd' => ?_) wk2)) (fun e2 => bX5_holds_114 (ih (c + 1) Z1 Y1 _ _ _ (by omega) hM1 hR1 f' g' hL1 ?_ (fun s' hs' hv' hd' => ?_) ?_))
        · rw [en, ed] at e2
          by_cases es : s' = c
          · subst es; exact e2
          · exact h1 s' (by omega) hv' hd'
        · rw [en, ed] at e2 ⊢; omega
        · rw [en, ed] at e2 ⊢
          by_cases es : s' = c
          · subst es; exact Int.le_refl _
          · have := h1 s' (by omega) hv' hd'
            omega
        · rw [en, ed]
          exact Or.inr ⟨c, by omega, hv, hd, rfl⟩
    · refine ih (c + 1) Z1 Y1 m _ _ (by omega) hM1 hR1 f' g' hL1 hm (fun s' hs' hv' hd => ?_) wk2
      by_cases es : s' = c
      · subst es; exact absurd hv' hv
      · exact h1 s' (by omega) hv' hd
end SH

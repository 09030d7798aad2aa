/-! told, span: both calls agree -/
def tl (b : Bk) (w : Int) : Int := if 0 ≤ w ∧ w ≤ 2 then (if w = 0 then (bN b : Int) else if w = 1 then (bM b : Int) else sf (bO b) 0 (bM b)) else if (10 ≤ w ∧ w ≤ 29) ∧ w % 10 < (bM b : Int) then (if w < 20 then bK b (w % 10).toNat else bI b (w % 10).toNat) else if (30 ≤ w ∧ w ≤ 49) ∧ w % 10 < (bN b : Int) then (if w < 40 then bW b (w % 10).toNat else bT b (w % 10).toNat) else -1000001
theorem ed_in {x y : Int} (hx : -20000 ≤ x ∧ x ≤ 20000) (hy : 0 < y) : -20000 ≤ x / y ∧ x / y ≤ 20000 :=
  ⟨Int.le_ediv_of_mul_le hy (by omega), Int.ediv_le_of_le_mul hy (by omega)⟩
def spb (W : Nat → Int) (w rest : Int) (c : Nat) : Nat → Nat → Int → Int
  | _, 0, e => e
  | k, n + 1, e => spb W w rest c (k + 1) n (if W k = -1000000 then e else max e (-((rest - (W k - w * (k : Int))) / ((c : Int) - (k : Int)))))
def spt (W : Nat → Int) (w rest : Int) (c : Nat) : Nat → Nat → Int → Int
  | _, 0, e => e
  | k, n + 1, e => spt W w rest c (k + 1) n (if W k = -1000000 then e else if e = -1000000 then (rest - (W k - w * (k : Int))) / ((k : Int) - (c : Int)) else min e ((rest - (W k - w * (k : Int))) / ((k : Int) - (c : Int))))
theorem spt_none {W : Nat → Int} {w rest : Int} {c : Nat} : ∀ (n k : Nat) (e : Int), (∀ i, k ≤ i → i < k + n → W i = -1000000) → spt W w rest c k n e = e
  | 0, k, e, _ => rfl
  | n + 1, k, e, h => by
    show spt W w rest c (k + 1) n _ = e
    rw [if_pos (h k (by omega) (by omega))]
    exact spt_none n (k + 1) e (fun i h1 h2 => h i (by omega) (by omega))
theorem spt_add {W : Nat → Int} {w rest : Int} {c : Nat} : ∀ (n m k : Nat) (e : Int), spt W w rest c k (n + m) e = spt W w rest c (k + n) m (spt W w rest c k n e)
  | 0, m, k, e => by rw [Nat.zero_add]; rfl
  | n + 1, m, k, e => by
    rw [show n + 1 + m = (n + m) + 1 by omega, show k + (n + 1) = k + 1 + n by omega]
    show spt W w rest c (k + 1) (n + m) _ = _
    rw [spt_add n m (k + 1)]
    rfl
section OP7
variable {CN : Bk → (Nat → Nat → Int) → (Nat → Nat → Int) → Prop} {b : Bk} {Z Y : Nat → Nat → Int} {S : Nat × (Nat → Int32)} {d : Nat} {Q : Option Value → jj_Hp → Prop} {Ki : Int → jj_Hp → Prop}
theorem lX0_rulesOn (hB : BR b) (hX : XB Z b) : ∀ (n r : Nat) (a : Int), r + n = bM b → Q (some (iv (a + sf (bO b) r n))) (jj_h Z Y S) → jj_Ex d mX0_rulesOn 4 [.ref 1, iv a, iv (r : Int)] [] (jj_h Z Y S) Q := by
  have h6 := hB.2.1
  have x2 := hX.2.1
  intro n
  induction n with
  | zero =>
    intro r a hr hQ
    rw [show a + sf (bO b) r 0 = a from Int.add_zero _] at hQ
    exact bX0_rulesOn_4 (by omega) (by omega) (fun _ => bX0_rulesOn_30 hQ) (fun e => by omega)
  | succ n ih =>
    intro r a hr hQ
    have e2 : ((r : Int)).toNat = r := Int.toNat_natCast r
    have h8 := (hX.2.2.2.1 r (by omega)).2.2.1
    have hO := (hB.2.2.2.1 r (by omega)).2.2.2.2.1
    rw [show sf (bO b) r (n + 1) = bO b r + sf (bO b) (r + 1) n from rfl] at hQ
    refine bX0_rulesOn_4 (by omega) (by omega) (fun e => by omega) (fun _ => bX0_rulesOn_12 (by omega) (by omega) (by rw [e2]; omega) (fun e => bX0_rulesOn_24 (ih (r + 1) _ (by omega) ?_)) (fun e => bX0_rulesOn_21 (ih (r + 1) _ (by omega) ?_)))
    · rw [e2, h8] at e
      rw [e, Int.zero_add] at hQ; exact hQ
    · rw [e2, h8] at e
      rw [show bO b r = 1 by omega, ← Int.add_assoc] at hQ; exact hQ
theorem kX4_toldCount {w : Int} (hw : 0 ≤ w ∧ w ≤ 9) (hB : BR b) (hX : XB Z b) (k : Ki (tl b w) (jj_h Z Y S)) : jj_Ci (d + 1) mX4_toldCount [.ref 0, iv w] (jj_h Z Y S) Ki := by
  unfold tl at k
  refine nX4_toldCount (bX4_toldCount_0 (by omega) (fun e => bX4_toldCount_28 ⟨_, rfl, ?_⟩) (fun e => bX4_toldCount_36 ⟨_, rfl, ?_⟩) (fun e => bX4_toldCount_44 (nX0_rulesOn (bX0_rulesOn_0 (lX0_rulesOn hB hX (bM b) 0 0 (by omega) ⟨_, rfl, bX4_toldCount_51 ⟨_, rfl, ?_⟩⟩)))) (fun e => bX4_toldCount_52 ⟨_, rfl, ?_⟩))
  · rw [if_pos (by omega), if_pos e] at k; rw [hX.1]; exact k
  · rw [if_pos (by omega), if_neg (by omega), if_pos e] at k; rw [hX.2.1]; exact k
  · rw [if_pos (by omega), if_neg (by omega), if_neg (by omega)] at k; rw [Int.zero_add]; exact k
  · rw [if_neg (by omega), if_neg (by omega), if_neg (by omega)] at k; exact k
theorem tl_small {w : Int} (hw : 0 ≤ w ∧ w ≤ 9) : tl b w = tl b (w % 10) := by rw [show w % 10 = w by omega]
theorem kX4_told {w : Int} (hw : i32 w) (hB : BR b) (hX : XB Z b) (k : Ki (tl b w) (jj_h Z Y S)) : jj_Ci (d + 2) mX4_told [.ref 0, iv w] (jj_h Z Y S) Ki := by
  have h4 := hB.1
  have h6 := hB.2.1
  have x1 := hX.1
  have x2 := hX.2.1
  have hr : 0 ≤ w → w % 10 < (bM b : Int) → Z 4 (w % 10).toNat = bK b (w % 10).toNat ∧ Z 7 (w % 10).toNat = bI b (w % 10).toNat := fun h0 h1 => by
    have := hX.2.2.2.1 (w % 10).toNat (by omega)
    exact ⟨this.1, this.2.1⟩
  have ht : 0 ≤ w → w % 10 < (bN b : Int) → Z 2 (w % 10).toNat = bW b (w % 10).toNat ∧ Z 3 (w % 10).toNat = bT b (w % 10).toNat := fun h0 h1 => hX.2.2.1 (w % 10).toNat (by omega)
  refine nX4_told (bX4_told_0 hw (fun h0 => bX4_told_7 (by omega) (by omega) (by omega) (fun e => bX4_told_52 (kX4_toldCount (by omega) hB hX (bX4_told_57 ⟨_, rfl, ?_⟩))) (fun e => bX4_told_58 (kX4_isRule (by omega) (by omega) (fun c => bX4_told_63 (by omega) (fun z => by omega) (fun _ => bX4_told_66 (by omega) (by omega) ⟨_, rfl, ?_⟩)) (fun c => bX4_told_63 (by omega) (fun _ => bX4_told_78 ⟨_, rfl, ?_⟩) (fun z => absurd rfl z)))) (fun e => bX4_told_81 (kX4_isRule (by omega) (by omega) (fun c => bX4_told_86 (by omega) (fun z => by omega) (fun _ => bX4_told_89 (by omega) (by omega) ⟨_, rfl, ?_⟩)) (fun c => bX4_told_86 (by omega) (fun _ => bX4_told_101 ⟨_, rfl, ?_⟩) (fun z => absurd rfl z)))) (fun e => bX4_told_104 (kX4_isThing (by omega) (by omega) (fun c => bX4_told_109 (by omega) (fun z => by omega) (fun _ => bX4_told_112 (by omega) (by omega) ⟨_, rfl, ?_⟩)) (fun c => bX4_told_109 (by omega) (fun _ => bX4_told_124 ⟨_, rfl, ?_⟩) (fun z => absurd rfl z)))) (fun e => bX4_told_127 (kX4_isThing (by omega) (by omega) (fun c => bX4_told_132 (by omega) (fun z => by omega) (fun _ => bX4_told_135 (by omega) (by omega) ⟨_, rfl, ?_⟩)) (fun c => bX4_told_132 (by omega) (fun _ => bX4_told_147 ⟨_, rfl, ?_⟩) (fun z => absurd rfl z)))) (fun e => bX4_told_150 ⟨_, rfl, ?_⟩)) (fun h0 => bX4_told_4 ⟨_, rfl, ?_⟩))
  · rw [tl_small (by omega)] at k; exact k
  all_goals unfold tl at k
  · rw [if_neg (by omega), if_pos (by omega), if_pos (by omega)] at k; rw [(hr h0 (by omega)).1]; exact k
  · rw [if_neg (by omega), if_neg (by omega), if_neg (by omega)] at k; exact k
  · rw [if_neg (by omega), if_pos (by omega), if_neg (by omega)] at k; rw [(hr h0 (by omega)).2]; exact k
  · rw [if_neg (by omega), if_neg (by omega), if_neg (by omega)] at k; exact k
  · rw [if_neg (by omega), if_neg (by omega), if_pos (by omega), if_pos (by omega)] at k; rw [(ht h0 (by omega)).1]; exact k
  · rw [if_neg (by omega), if_neg (by omega), if_neg (by omega)] at k; exact k
  · rw [if_neg (by omega), if_neg (by omega), if_pos (by omega), if_neg (by omega)] at k; rw [(ht h0 (by omega)).2]; exact k
  · rw [if_neg (by omega), if_neg (by omega), if_neg (by omega)] at k; exact k
  · rw [if_neg (by omega), if_neg (by omega), if_neg (by omega)] at k; exact k
  · rw [if_neg (by omega), if_neg (by omega), if_neg (by omega)] at k; exact k
theorem lX5_told {w : Int} (hB : BR b) (hM : MB Z b) : ∀ (n r : Nat) (a : Int), r + n = bM b → jj_Ex d mX5_told 35 [.ref 27, iv w, iv (a + sf (bO b) r n), iv ((bM b : Nat) : Int)] [] (jj_h Z Y S) Q → jj_Ex d mX5_told 4 [.ref 27, iv w, iv a, iv (r : Int)] [] (jj_h Z Y S) Q := by
  have h6 := hB.2.1
  have m2 := hM.2.1
  intro n
  induction n with
  | zero =>
    intro r a hr hQ
    rw [show a + sf (bO b) r 0 = a from Int.add_zero _, show bM b = r by omega] at hQ
    exact bX5_told_4 (by omega) (by omega) (fun _ => hQ) (fun e => by omega)
  | succ n ih =>
    intro r a hr hQ
    have e2 : ((r : Int)).toNat = r := Int.toNat_natCast r
    have h8 := (hM.2.2.2.1 r (by omega)).2.2.1
    have hO := (hB.2.2.2.1 r (by omega)).2.2.2.2.1
    rw [show sf (bO b) r (n + 1) = bO b r + sf (bO b) (r + 1) n from rfl] at hQ
    refine bX5_told_4 (by omega) (by omega) (fun e => by omega) (fun _ => bX5_told_12 (by omega) (by omega) (by rw [e2]; omega) (fun e => bX5_told_26 (ih (r + 1) _ (by omega) ?_)) (fun e => bX5_told_22 (ih (r + 1) _ (by omega) ?_)))
    · rw [e2, h8] at e
      rw [e, Int.zero_add] at hQ
      rw [Int.add_zero]; exact hQ
    · rw [e2, h8] at e
      rw [show bO b r = 1 by omega, ← Int.add_assoc] at hQ; exact hQ
theorem kX5_told {w : Int} (hw : i32 w) (hB : BR b) (hM : MB Z b) (k : Ki (tl b w) (jj_h Z Y S)) : jj_Ci (d + 2) mX5_told [.ref 27, iv w] (jj_h Z Y S) Ki := by
  have h4 := hB.1
  have h6 := hB.2.1
  have m1 := hM.1
  have m2 := hM.2.1
  have hr : 0 ≤ w → w % 10 < (bM b : Int) → Z 30 (w % 10).toNat = bK b (w % 10).toNat ∧ Z 33 (w % 10).toNat = bI b (w % 10).toNat := fun h0 h1 => by
    have := hM.2.2.2.1 (w % 10).toNat (by omega)
    exact ⟨this.1, this.2.1⟩
  have ht : 0 ≤ w → w % 10 < (bN b : Int) → Z 28 (w % 10).toNat = bW b (w % 10).toNat ∧ Z 29 (w % 10).toNat = bT b (w % 10).toNat := fun h0 h1 => hM.2.2.1 (w % 10).toNat (by omega)
  unfold tl at k
  -- what is below: neither of the spans
  have lowc : ∀ z x : Int, w < 0 → jj_Ex (d + 2) mX5_told 88 [.ref 27, iv w, iv z, iv x] [iv 0] (jj_h Z Y S) (fun r h1 => ∃ x, r = some (iv x) ∧ Ki x h1) := fun z x h0 =>
    bX5_told_88 (by omega) (fun _ => bX5_told_121 hw (kX5_in (by omega) (by omega) (by omega) (fun c => by omega) (fun c => bX5_told_132 (by omega) (fun _ => bX5_told_167 ⟨_, rfl, by rw [if_neg (by omega), if_neg (by omega), if_neg (by omega)] at k; exact k⟩) (fun e => absurd rfl e)))) (fun e => absurd rfl e)
  refine nX5_told (bX5_told_0 (lX5_told hB hM (bM b) 0 0 (by omega) (bX5_told_35 hw (kX5_in (by omega) (by omega) (by omega) (fun c => bX5_told_44 (by omega) (fun e => by omega) (fun _ => bX5_told_47 hw (fun e => bX5_told_58 hw (fun e3 => bX5_told_70 ⟨_, rfl, ?_⟩) (fun e3 => bX5_told_63 ⟨_, rfl, ?_⟩)) (fun e => bX5_told_51 ⟨_, rfl, ?_⟩))) (fun c => bX5_told_44 (by omega) (fun _ => ?_) (fun e => absurd rfl e))))))
  · rw [if_pos c, if_neg e, if_neg e3] at k; rw [Int.zero_add]; exact k
  · rw [if_pos c, if_neg e, if_pos e3] at k; rw [m2]; exact k
  · rw [if_pos c, if_pos e] at k; rw [m1]; exact k
  · by_cases hlow : w < 0
    · by_cases hmin : w = -2147483648
      · subst hmin
        exact bX5_told_72m (kX5_in (by omega) (by omega) (by omega) (fun c => by omega) (fun c => lowc _ _ hlow))
      · exact bX5_told_72 (by omega) hw (kX5_in (by omega) (by omega) (by omega) (fun c => by omega) (fun c => lowc _ _ hlow))
    · refine bX5_told_72 (by omega) hw ?_
      rw [Int.tmod_eq_emod_of_nonneg (by omega)]
      have tail : ¬ ((10 ≤ w ∧ w ≤ 29) ∧ w % 10 < (bM b : Int)) → jj_Ex (d + 2) mX5_told 121 [.ref 27, iv w, iv (0 + sf (bO b) 0 (bM b)), iv (w % 10)] [] (jj_h Z Y S) (fun r h1 => ∃ x, r = some (iv x) ∧ Ki x h1) := by
        intro hn
        rw [if_neg c, if_neg hn] at k
        refine bX5_told_121 hw (kX5_in (by omega) (by omega) (by omega) (fun c2 => bX5_told_132 (by omega) (fun e => by omega) (fun _ => bX5_told_135 (kX5_isThing (by omega) (by omega) (fun c3 => bX5_told_140 (by omega) (fun e => by omega) (fun _ => bX5_told_143 hw (fun e4 => bX5_told_158 (by omega) (by omega) ⟨_, rfl, ?_⟩) (fun e4 => bX5_told_149 (by omega) (by omega) ⟨_, rfl, ?_⟩))) (fun c3 => bX5_told_140 (by omega) (fun _ => bX5_told_167 ⟨_, rfl, ?_⟩) (fun e => absurd rfl e))))) (fun c2 => bX5_told_132 (by omega) (fun _ => bX5_told_167 ⟨_, rfl, ?_⟩) (fun e => absurd rfl e)))
        · rw [if_pos (by omega), if_neg (by omega)] at k; rw [(ht (by omega) (by omega)).2]; exact k
        · rw [if_pos (by omega), if_pos (by omega)] at k; rw [(ht (by omega) (by omega)).1]; exact k
        · rw [if_neg (by omega)] at k; exact k
        · rw [if_neg (by omega)] at k; exact k
      refine kX5_in (by omega) (by omega) (by omega) (fun c2 => bX5_told_88 (by omega) (fun e => by omega) (fun _ => bX5_told_91 (kX5_isRule (by omega) (by omega) (fun c3 => bX5_told_96 (by omega) (fun e => by omega) (fun _ => bX5_told_99 hw (fun e4 => bX5_told_114 (by omega) (by omega) ⟨_, rfl, ?_⟩) (fun e4 => bX5_told_105 (by omega) (by omega) ⟨_, rfl, ?_⟩))) (fun c3 => bX5_told_96 (by omega) (fun _ => tail (by omega)) (fun e => absurd rfl e))))) (fun c2 => bX5_told_88 (by omega) (fun _ => tail (by omega)) (fun e => absurd rfl e))
      · rw [if_neg c, if_pos (by omega), if_neg (by omega)] at k; rw [(hr (by omega) (by omega)).2]; exact k
      · rw [if_neg c, if_pos (by omega), if_pos (by omega)] at k; rw [(hr (by omega) (by omega)).1]; exact k
theorem onc_in (hB : BR b) : 0 ≤ sf (bO b) 0 (bM b) ∧ sf (bO b) 0 (bM b) ≤ 6 := by
  have h6 := hB.2.1
  have aux : ∀ (n k : Nat), k + n ≤ bM b → 0 ≤ sf (bO b) k n ∧ sf (bO b) k n ≤ (n : Int) := by
    intro n
    induction n with
    | zero => intro k _; show (0 : Int) ≤ 0 ∧ (0 : Int) ≤ 0; omega
    | succ n ih =>
      intro k hk
      have := ih (k + 1) (by omega)
      have hO := (hB.2.2.2.1 k (by omega)).2.2.2.2.1
      show 0 ≤ bO b k + sf (bO b) (k + 1) n ∧ bO b k + sf (bO b) (k + 1) n ≤ ((n + 1 : Nat) : Int)
      omega
  have := aux (bM b) 0 (by omega)
  omega
theorem tl_in (hB : BR b) (w : Int) : i32 (tl b w) := by
  have h4 := hB.1
  have h6 := hB.2.1
  unfold tl
  split
  · split
    · omega
    · split
      · omega
      · have := onc_in hB; omega
  · split
    · next h =>
      have := hB.2.2.2.1 (w % 10).toNat (by omega)
      split <;> omega
    · split
      · next h =>
        have := hB.2.2.1 (w % 10).toNat (by omega)
        split <;> omega
      · omega
theorem op_told (h : Inv SV CN b Z Y) {w : Int} (hw : i32 w) : PairI SV CN (d + 8) mX4_told mX5_told [.ref 0, iv w] [.ref 27, iv w] Z Y S :=
  jj_Ci.deep (d := d + 2) (by omega) (kX4_told hw h.1 h.2.1 ⟨Z, Y, rfl, tl_in h.1 w, jj_Ci.deep (d := d + 2) (by omega) (kX5_told hw h.1 h.2.2.1 ⟨rfl, b, Z, Y, rfl, h⟩)⟩)
end OP7

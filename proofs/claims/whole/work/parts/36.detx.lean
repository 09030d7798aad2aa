/-! the class's determinant -/
def lpc (c : Nat → Nat → Int) (rec : Nat → Int) (row used : Nat) : Nat → Nat → Int → Int → Int
  | 0, _, total, _ => total
  | n + 1, col, total, sign => if used / 2 ^ col % 2 = 1 then lpc c rec row used n (col + 1) total sign else lpc c rec row used n (col + 1) (total + sign * c row col * rec (used ||| 2 ^ col)) (-sign)
def lp (c : Nat → Nat → Int) (w : Nat) : Nat → Nat → Nat → Int
  | 0, _, _ => 1
  | m + 1, row, used => lpc c (fun u => lp c w m (row + 1) u) row used w 0 0 1
set_option maxHeartbeats 4000000 in
theorem lp_jdt (c : Nat → Nat → Int) {w : Nat} (hw : w ≤ 4) : lp c w w 0 0 = jdt w c := by
  rcases le4 hw with rfl | rfl | rfl | rfl | rfl
  · rfl
  · simp [lp, lpc, jdt]
  · simp [lp, lpc, jdt, jd2]; grind
  · simp [lp, lpc, jdt, jd3, jd2]; grind
  · simp [lp, lpc, jdt, jd4, jd3, jd2]; grind
section DX
variable {d : Nat} {Z Y : Nat → Nat → Int} {S : Nat × (Nat → Int32)} {Q : Option Value → jj_Hp → Prop} {K : jj_Hp → Prop} {Ki : Int → jj_Hp → Prop}
theorem kX1_has {m k : Nat} (hm : m ≤ 2147483647) (hk : k ≤ 31) (k1 : m / 2 ^ k % 2 = 1 → Ki 1 (jj_h Z Y S)) (k0 : m / 2 ^ k % 2 = 0 → Ki 0 (jj_h Z Y S)) : jj_Ci d mX1_has [iv (m : Int), iv (k : Int)] (jj_h Z Y S) Ki := by
  have h := Nat.div_le_self m (2 ^ k)
  have e1 : ((m : Int)).toNat = m := Int.toNat_natCast m
  have e2 : ((k : Int)).toNat = k := Int.toNat_natCast k
  refine nX1_has (bX1_has_0 (by omega) (by omega) (by omega) (by rw [e1, e2]; generalize m / 2 ^ k = q at h ⊢; omega) (by rw [e1, e2]; generalize m / 2 ^ k = q at h ⊢; omega) (fun e => bX1_has_12 ⟨_, rfl, k0 ?_⟩) (fun e => bX1_has_8 ⟨_, rfl, k1 ?_⟩))
  · rw [e1, e2] at e; generalize m / 2 ^ k = q at e ⊢; omega
  · rw [e1, e2] at e; generalize m / 2 ^ k = q at e ⊢; omega
theorem or16 {u c : Nat} (hu : u < 16) (hc : c < 4) : u ||| 2 ^ c < 16 := by
  have : 2 ^ c < 2 ^ 4 := Nat.pow_lt_pow_right (by omega) hc
  exact Nat.or_lt_two_pow (n := 4) hu this
theorem lX1_det {w row used m : Nat} (hw : w ≤ 4) (hr : row < w) (hu : used < 16) (hc : ∀ r k, r < w → k < w → i64 (Y 24 (r * 4 + k))) (ih : ∀ u, u < 16 → ∀ Kl : Int → jj_Hp → Prop, Kl (lp (fun r k => Y 24 (r * 4 + k)) w m (row + 1) u) (jj_h Z Y S) → jj_Cl (d + m + 1) mX1_determinant [.ref 24, iv (w : Int), iv ((row : Int) + 1), iv (u : Int)] (jj_h Z Y S) Kl) : ∀ (n col : Nat) (total sign : Int) (v9 v10 : Value), col + n = w → Q (some (lv (lpc (fun r k => Y 24 (r * 4 + k)) (fun u => lp (fun r k => Y 24 (r * 4 + k)) w m (row + 1) u) row used n col total sign))) (jj_h Z Y S) → jj_Ex (d + m + 2) mX1_determinant 21 [.ref 24, iv (w : Int), iv (row : Int), iv (used : Int), lv total, .null, lv sign, .null, iv (col : Int), v9, v10] [] (jj_h Z Y S) Q := by
  intro n
  induction n with
  | zero =>
    intro col total sign v9 v10 hcol hQ
    exact bX1_determinant_21 (by omega) (by omega) (fun _ => bX1_determinant_89 hQ) (fun z => by omega)
  | succ n ihn =>
    intro col total sign v9 v10 hcol hQ
    have e1 : ((row : Int) * 4 + (col : Int)).toNat = row * 4 + col := by omega
    refine bX1_determinant_21 (by omega) (by omega) (fun z => by omega) (fun _ => bX1_determinant_27 (kX1_has (by omega) (by omega) (fun hb => bX1_determinant_33 (by omega) (fun _ => bX1_determinant_83 (ihn (col + 1) _ _ _ _ (by omega) ?_)) (fun z => by omega)) (fun hb => bX1_determinant_33 (by omega) (fun z => absurd rfl z) (fun _ => bX1_determinant_36 (by omega) (by omega) (by rw [e1]; exact hc row col hr (by omega)) (fun e => bX1_determinant_78 (ihn (col + 1) _ _ _ _ (by omega) ?_)) (fun e => bX1_determinant_53 (by omega) (by omega) (by omega) ?_ ?_)))))
    · rw [show lpc (fun r k => Y 24 (r * 4 + k)) (fun u => lp (fun r k => Y 24 (r * 4 + k)) w m (row + 1) u) row used (n + 1) col total sign = lpc (fun r k => Y 24 (r * 4 + k)) (fun u => lp (fun r k => Y 24 (r * 4 + k)) w m (row + 1) u) row used n (col + 1) total sign from if_pos hb] at hQ
      exact hQ
    · rw [e1] at e
      rw [show lpc (fun r k => Y 24 (r * 4 + k)) (fun u => lp (fun r k => Y 24 (r * 4 + k)) w m (row + 1) u) row used (n + 1) col total sign = lpc (fun r k => Y 24 (r * 4 + k)) (fun u => lp (fun r k => Y 24 (r * 4 + k)) w m (row + 1) u) row used n (col + 1) (total + sign * Y 24 (row * 4 + col) * lp (fun r k => Y 24 (r * 4 + k)) w m (row + 1) (used ||| 2 ^ col)) (-sign) from if_neg (by omega), e, Int.mul_zero, Int.zero_mul, Int.add_zero] at hQ
      exact hQ
    · have : 2 ^ col < 2 ^ 4 := Nat.pow_lt_pow_right (by omega) (show col < 4 by omega)
      rw [Int.toNat_natCast]; generalize 2 ^ col = q at this ⊢; omega
    · rw [Int.toNat_natCast, Int.toNat_natCast, Int.toNat_natCast]
      refine ih (used ||| 2 ^ col) (or16 hu (by omega)) _ (bX1_determinant_74 (ihn (col + 1) _ _ _ _ (by omega) ?_))
      rw [e1]
      rw [show lpc (fun r k => Y 24 (r * 4 + k)) (fun u => lp (fun r k => Y 24 (r * 4 + k)) w m (row + 1) u) row used (n + 1) col total sign = lpc (fun r k => Y 24 (r * 4 + k)) (fun u => lp (fun r k => Y 24 (r * 4 + k)) w m (row + 1) u) row used n (col + 1) (total + sign * Y 24 (row * 4 + col) * lp (fun r k => Y 24 (r * 4 + k)) w m (row + 1) (used ||| 2 ^ col)) (-sign) from if_neg (by omega)] at hQ
      exact hQ
theorem gX1_determinant {w : Nat} (hw : w ≤ 4) (hc : ∀ r k, r < w → k < w → i64 (Y 24 (r * 4 + k))) : ∀ (m row : Nat), row + m = w → ∀ u, u < 16 → ∀ Kl : Int → jj_Hp → Prop, Kl (lp (fun r k => Y 24 (r * 4 + k)) w m row u) (jj_h Z Y S) → jj_Cl (d + m + 1) mX1_determinant [.ref 24, iv (w : Int), iv (row : Int), iv (u : Int)] (jj_h Z Y S) Kl := by
  intro m
  induction m with
  | zero =>
    intro row hrow u hu Kl k
    exact nX1_determinant (bX1_determinant_0 (by omega) (by omega) (fun _ => bX1_determinant_10 ⟨_, rfl, k⟩) (fun z => by omega))
  | succ m ih =>
    intro row hrow u hu Kl k
    exact nX1_determinant (bX1_determinant_0 (by omega) (by omega) (fun z => by omega) (fun _ => bX1_determinant_5 (by omega) (fun _ => bX1_determinant_12 (lX1_det hw (by omega) hu hc (fun u' hu' Kl' k' => ih (row + 1) (by omega) u' hu' Kl' k') w 0 0 1 _ _ (by omega) ⟨_, rfl, k⟩)) (fun z => by omega)))
theorem kX1_determinant {w : Nat} {Kl : Int → jj_Hp → Prop} (hw : w ≤ 4) (hc : ∀ r k, r < w → k < w → i64 (Y 24 (r * 4 + k))) (k : Kl (jdt w (fun r k => Y 24 (r * 4 + k))) (jj_h Z Y S)) : jj_Cl (d + 5) mX1_determinant [.ref 24, iv (w : Int), iv 0, iv 0] (jj_h Z Y S) Kl := by
  rw [← lp_jdt _ hw] at k
  exact jj_Cl.deep (d := d + w + 1) (by omega) (gX1_determinant hw hc w 0 (by omega) 0 (by omega) Kl k)
end DX

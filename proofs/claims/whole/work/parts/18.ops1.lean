/-! what holds between two calls; calls of both that change the book -/
def Inv (SV : Bk → (Nat → Nat → Int) → Prop) (CN : Bk → (Nat → Nat → Int) → (Nat → Nat → Int) → Prop) (b : Bk) (Z Y : Nat → Nat → Int) : Prop := BR b ∧ XB Z b ∧ MB Z b ∧ PB Z ∧ (Z 0 5 = 0 ∨ (Z 0 5 = 1 ∧ SV b Z)) ∧ (Z 0 6 = 0 ∨ (Z 0 6 = 1 ∧ CN b Z Y))
abbrev i32 (x : Int) : Prop := -2147483648 ≤ x ∧ x ≤ 2147483647
abbrev i64 (x : Int) : Prop := -9223372036854775808 ≤ x ∧ x ≤ 9223372036854775807
theorem jj_Ci.imp {d : Nat} {M : jj_M} {vs : List Value} {h : jj_Hp} {K K' : Int → jj_Hp → Prop} (hx : jj_Ci d M vs h K) (hK : ∀ x h1, K x h1 → K' x h1) : jj_Ci d M vs h K' := jj_Ca.imp hx (fun _ _ ⟨x, e, k⟩ => ⟨x, e, hK _ _ k⟩)
theorem jj_Cl.imp {d : Nat} {M : jj_M} {vs : List Value} {h : jj_Hp} {K K' : Int → jj_Hp → Prop} (hx : jj_Cl d M vs h K) (hK : ∀ x h1, K x h1 → K' x h1) : jj_Cl d M vs h K' := jj_Ca.imp hx (fun _ _ ⟨x, e, k⟩ => ⟨x, e, hK _ _ k⟩)
theorem jj_Cv.imp {d : Nat} {M : jj_M} {vs : List Value} {h : jj_Hp} {K K' : jj_Hp → Prop} (hx : jj_Cv d M vs h K) (hK : ∀ h1, K h1 → K' h1) : jj_Cv d M vs h K' := jj_Ca.imp hx (fun _ _ ⟨e, k⟩ => ⟨e, hK _ k⟩)
theorem jj_Cr.imp {d : Nat} {M : jj_M} {vs : List Value} {h : jj_Hp} {K K' : Nat → jj_Hp → Prop} (hx : jj_Cr d M vs h K) (hK : ∀ x h1, K x h1 → K' x h1) : jj_Cr d M vs h K' := jj_Ca.imp hx (fun _ _ ⟨x, e, k⟩ => ⟨x, e, hK _ _ k⟩)
theorem jj_Ci.deep {d d' : Nat} {M : jj_M} {vs : List Value} {h : jj_Hp} {K : Int → jj_Hp → Prop} (hd : d ≤ d') (hx : jj_Ci d M vs h K) : jj_Ci d' M vs h K := jj_Ca.deep hd hx
theorem jj_Cl.deep {d d' : Nat} {M : jj_M} {vs : List Value} {h : jj_Hp} {K : Int → jj_Hp → Prop} (hd : d ≤ d') (hx : jj_Cl d M vs h K) : jj_Cl d' M vs h K := jj_Ca.deep hd hx
theorem jj_Cv.deep {d d' : Nat} {M : jj_M} {vs : List Value} {h : jj_Hp} {K : jj_Hp → Prop} (hd : d ≤ d') (hx : jj_Cv d M vs h K) : jj_Cv d' M vs h K := jj_Ca.deep hd hx
theorem jj_Cr.deep {d d' : Nat} {M : jj_M} {vs : List Value} {h : jj_Hp} {K : Nat → jj_Hp → Prop} (hd : d ≤ d') (hx : jj_Cr d M vs h K) : jj_Cr d' M vs h K := jj_Ca.deep hd hx
/-- the class's call, then the reference's: the same answer, and what holds between two calls holds again -/
def PairI (SV : Bk → (Nat → Nat → Int) → Prop) (CN : Bk → (Nat → Nat → Int) → (Nat → Nat → Int) → Prop) (d : Nat) (mX mM : jj_M) (ax am : List Value) (Z Y : Nat → Nat → Int) (S : Nat × (Nat → Int32)) : Prop :=
  jj_Ci d mX ax (jj_h Z Y S) (fun x h1 => ∃ Z1 Y1, h1 = jj_h Z1 Y1 S ∧ i32 x ∧ jj_Ci d mM am (jj_h Z1 Y1 S) (fun y h2 => y = x ∧ ∃ b' Z' Y', h2 = jj_h Z' Y' S ∧ Inv SV CN b' Z' Y'))
def PairL (SV : Bk → (Nat → Nat → Int) → Prop) (CN : Bk → (Nat → Nat → Int) → (Nat → Nat → Int) → Prop) (d : Nat) (mX mM : jj_M) (ax am : List Value) (Z Y : Nat → Nat → Int) (S : Nat × (Nat → Int32)) : Prop :=
  jj_Cl d mX ax (jj_h Z Y S) (fun x h1 => ∃ Z1 Y1, h1 = jj_h Z1 Y1 S ∧ i64 x ∧ jj_Cl d mM am (jj_h Z1 Y1 S) (fun y h2 => y = x ∧ ∃ b' Z' Y', h2 = jj_h Z' Y' S ∧ Inv SV CN b' Z' Y'))
section TH
variable {b : Bk} {w q : Int}
theorem th_N : bN (bkThing b w q) = bN b + 1 := rfl
theorem th_W (t : Nat) : bW (bkThing b w q) t = if t = bN b then w else bW b t := rfl
theorem th_T (t : Nat) : bT (bkThing b w q) t = if t = bN b then q else bT b t := rfl
end TH
section OP1
variable {SV : Bk → (Nat → Nat → Int) → Prop} {CN : Bk → (Nat → Nat → Int) → (Nat → Nat → Int) → Prop} {b : Bk} {Z Y : Nat → Nat → Int} {S : Nat × (Nat → Int32)} {d : Nat}
theorem Inv.nx (h : Inv SV CN b Z Y) : Z 1 0 = (bN b : Nat) ∧ Z 1 1 = (bM b : Nat) ∧ Z 27 0 = (bN b : Nat) ∧ Z 27 3 = (bM b : Nat) ∧ bN b ≤ 4 ∧ bM b ≤ 6 := ⟨h.2.1.1, h.2.1.2.1, h.2.2.1.1, h.2.2.1.2.1, h.1.1, h.1.2.1⟩
theorem op_thing (h : Inv SV CN b Z Y) {w q : Int} (hw : i32 w) (hq : i32 q) : PairI SV CN (d + 2) mX4_thing mX5_thing [.ref 0, iv w, iv q] [.ref 27, iv w, iv q] Z Y S := by
  obtain ⟨e1, e2, e3, e4, e5, e6⟩ := h.nx
  obtain ⟨hB, hX, hM, hP, hs, hc⟩ := id h
  refine jj_Ci.deep (d := d + 1) (by omega) (kX4_thing hw hq (by omega) (fun c => ⟨_, _, rfl, by omega, ?_⟩) (fun c => ⟨_, _, rfl, by omega, ?_⟩) (fun c => ⟨_, _, rfl, by omega, ?_⟩))
  · refine jj_Ci.deep (d := d + 1) (by omega) (kX5_thing hw hq (by omega) (fun c' => ⟨rfl, b, _, _, rfl, h⟩) (fun c' => by omega) (fun c' => by omega))
  · refine jj_Ci.deep (d := d + 1) (by omega) (kX5_thing hw hq (by omega) (fun c' => by omega) (fun c' => ⟨rfl, b, _, _, rfl, h⟩) (fun c' => by omega))
  · refine jj_Ci.deep (d := d + 1) (by omega) (kX5_thing hw hq (by simp [zu]; omega) (fun c' => by omega) (fun c' => by simp [zu] at c'; omega) (fun c' => ⟨by simp [zu]; omega, bkThing b w q, _, _, rfl, ?_⟩))
    have hn : bN b < 4 := by omega
    have t1 : (Z 1 0).toNat = bN b := by omega
    have t2 : (Z 27 0).toNat = bN b := by omega
    obtain ⟨x1, x2, x3, x4, x5⟩ := hX
    obtain ⟨m1, m2, m3, m4, m5⟩ := hM
    refine ⟨hB.thing hn c.1 c.2.1, ⟨?_, ?_, fun t ht => ?_, fun r hr => ?_, fun r t hr ht => ?_⟩, ⟨?_, ?_, fun t ht => ?_, fun r hr => ?_, fun r t hr ht => ?_⟩, fun t ht => ?_, Or.inl ?_, Or.inl ?_⟩
    · rw [th_N]; simp [zu]; omega
    · simp [zu]; exact x2
    · have ht : t < bN b + 1 := ht
      rw [th_W, th_T]
      by_cases e : t = bN b
      · simp [zu, t1, e]
      · have := x3 t (by omega)
        simp [zu, t1, e]; exact this
    · have := x4 r hr
      simp [zu]; exact this
    · have := x5 r t hr ht
      simp [zu]; exact this
    · rw [th_N]; simp [zu]; omega
    · simp [zu]; exact m2
    · have ht : t < bN b + 1 := ht
      rw [th_W, th_T]
      by_cases e : t = bN b
      · simp [zu, t2, e]
      · have := m3 t (by omega)
        simp [zu, t2, e]; exact this
    · have := m4 r hr
      simp [zu]; exact this
    · have := m5 r t hr ht
      simp [zu]; exact this
    · have := hP t ht
      simp [zu]; exact this
    · simp [zu]
    · simp [zu]
end OP1

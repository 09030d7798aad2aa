/-! calls of both that change the book: rule, amount, on, set, put -/
section OP2
variable {SV : Bk → (Nat → Nat → Int) → Prop} {CN : Bk → (Nat → Nat → Int) → (Nat → Nat → Int) → Prop} {b : Bk} {Z Y : Nat → Nat → Int} {S : Nat × (Nat → Int32)} {d : Nat}
theorem op_put (hSV : ∀ b Z k v k' v', SV b Z → SV b (zu (zu Z 26 k v) 36 k' v')) (hCN : ∀ b Z Y k v k' v', CN b Z Y → CN b (zu (zu Z 26 k v) 36 k' v') Y) (h : Inv SV CN b Z Y) {t v : Int} (ht : i32 t) (hv : i32 v) : PairI SV CN (d + 3) mX4_put mX5_put [.ref 0, iv t, iv v] [.ref 27, iv t, iv v] Z Y S := by
  obtain ⟨e1, e2, e3, e4, e5, e6⟩ := h.nx
  obtain ⟨hB, hX, hM, hP, hs, hc⟩ := id h
  refine jj_Ci.deep (d := d + 1) (by omega) (kX4_put ht hv (by omega) (fun c => ⟨_, _, rfl, by omega, ?_⟩) (fun c => ⟨_, _, rfl, ?_, ?_⟩))
  · refine jj_Ci.deep (d := d + 2) (by omega) (kX5_put ht hv (by omega) (fun c' => ⟨rfl, b, _, _, rfl, h⟩) (fun c' => by omega))
  · have := hP t.toNat (by omega); omega
  · refine jj_Ci.deep (d := d + 2) (by omega) (kX5_put ht hv (by simp [zu]; omega) (fun c' => by simp [zu] at c'; omega) (fun c' => ⟨?_, b, _, _, rfl, ?_⟩))
    · have := hP t.toNat (by omega)
      simp [zu]; omega
    · refine ⟨hB, hX.fr (fun a ha k => ?_), hM.fr (fun a ha k => ?_) (by simp [zu]) (by simp [zu]), fun t' ht' => ?_, ?_, ?_⟩
      · unfold xbc at ha
        have n1 : ¬ a = 26 := by omega
        have n2 : ¬ a = 36 := by omega
        simp [zu, n1, n2]
      · unfold mbc at ha
        have n1 : ¬ a = 26 := by omega
        have n2 : ¬ a = 36 := by omega
        simp [zu, n1, n2]
      · have := hP t' ht'
        by_cases e : t' = t.toNat
        · simp [zu, e]; omega
        · simp [zu, e]; exact this
      · rcases hs with hs | ⟨hs, hv⟩
        · left; simp [zu]; exact hs
        · right; exact ⟨by simp [zu]; exact hs, hSV _ _ _ _ _ _ hv⟩
      · rcases hc with hs | ⟨hs, hv⟩
        · left; simp [zu]; exact hs
        · right; exact ⟨by simp [zu]; exact hs, hCN _ _ _ _ _ _ _ hv⟩
theorem op_on (h : Inv SV CN b Z Y) {r v : Int} (hr : i32 r) (hv : v = 0 ∨ v = 1) : PairI SV CN (d + 3) mX4_on mX5_on [.ref 0, iv r, iv v] [.ref 27, iv r, iv v] Z Y S := by
  obtain ⟨e1, e2, e3, e4, e5, e6⟩ := h.nx
  obtain ⟨hB, hX, hM, hP, hs, hc⟩ := id h
  have key : 0 ≤ r ∧ r < Z 1 1 → Z 8 r.toNat = bO b r.toNat ∧ Z 34 r.toNat = bO b r.toNat ∧ (bO b r.toNat = 0 ∨ bO b r.toNat = 1) := fun hr => by
    have h1 : r.toNat < bM b := by omega
    exact ⟨(hX.2.2.2.1 _ h1).2.2.1, (hM.2.2.2.1 _ h1).2.2.1, (hB.2.2.2.1 _ h1).2.2.2.2.1⟩
  have fin : 0 ≤ r ∧ r < Z 1 1 → Inv SV CN (bkOn b r.toNat v) (zu (zu (zu (zu Z 8 (r.toNat) v) 0 5 0) 0 6 0) 34 r.toNat v) Y := fun hr => by
    obtain ⟨x1, x2, x3, x4, x5⟩ := hX
    obtain ⟨m1, m2, m3, m4, m5⟩ := hM
    refine ⟨hB.on hv, ⟨by simp [zu]; exact x1, by simp [zu]; exact x2, fun t ht => by have := x3 t ht; simp [zu]; exact this, fun r' hr' => ?_, fun r' t hr' ht => by have := x5 r' t hr' ht; simp [zu]; exact this⟩, ⟨by simp [zu]; exact m1, by simp [zu]; exact m2, fun t ht => by have := m3 t ht; simp [zu]; exact this, fun r' hr' => ?_, fun r' t hr' ht => by have := m5 r' t hr' ht; simp [zu]; exact this⟩, fun t ht => by have := hP t ht; simp [zu]; exact this, Or.inl (by simp [zu]), Or.inl (by simp [zu])⟩
    · have := x4 r' hr'
      rw [on_O]
      by_cases e : r' = r.toNat
      · simp [zu, e] at this ⊢; exact ⟨this.1, this.2.1, this.2.2.2⟩
      · simp [zu, e]; exact this
    · have := m4 r' hr'
      rw [on_O]
      by_cases e : r' = r.toNat
      · simp [zu, e] at this ⊢; exact ⟨this.1, this.2.1, this.2.2.2⟩
      · simp [zu, e]; exact this
  refine jj_Ci.deep (d := d + 1) (by omega) (kX4_on hr hv (by omega) (fun c => by have := key c; omega) (fun c => ⟨_, _, rfl, by omega, ?_⟩) (fun c => ⟨_, _, rfl, by omega, ?_⟩) (fun c => ⟨_, _, rfl, by omega, ?_⟩))
  · refine jj_Ci.deep (d := d + 2) (by omega) (kX5_on hr hv (by omega) (fun c => by omega) (fun c' => ⟨rfl, b, _, _, rfl, h⟩) (fun c' => by omega) (fun c' => by omega))
  · have k1 := key c.1
    refine jj_Ci.deep (d := d + 2) (by omega) (kX5_on hr hv (by simp [zu]; omega) (fun _ => by simp [zu]; omega) (fun c' => by simp [zu] at c'; omega) (fun c' => ⟨rfl, _, _, _, rfl, fin c.1⟩) (fun c' => by simp [zu] at c'; omega))
  · have k1 := key c.1
    refine jj_Ci.deep (d := d + 2) (by omega) (kX5_on hr hv (by simp [zu]; omega) (fun _ => by simp [zu]; omega) (fun c' => by simp [zu] at c'; omega) (fun c' => by simp [zu] at c'; omega) (fun c' => ⟨rfl, _, _, _, rfl, fin c.1⟩))
theorem op_set (h : Inv SV CN b Z Y) {w k v : Int} (hw : i32 w) (hk : i32 k) (hv : i32 v) : PairI SV CN (d + 3) mX4_set mX5_set [.ref 0, iv w, iv k, iv v] [.ref 27, iv w, iv k, iv v] Z Y S := by
  obtain ⟨e1, e2, e3, e4, e5, e6⟩ := h.nx
  obtain ⟨hB, hX, hM, hP, hs, hc⟩ := id h
  have keyR : 0 ≤ k ∧ k < Z 1 1 → Z 4 k.toNat = bK b k.toNat ∧ Z 30 k.toNat = bK b k.toNat ∧ 0 ≤ bK b k.toNat ∧ bK b k.toNat ≤ 2 ∧ Z 7 k.toNat = bI b k.toNat ∧ Z 33 k.toNat = bI b k.toNat ∧ 0 ≤ bI b k.toNat ∧ bI b k.toNat ≤ 999 := fun hr => by
    have h1 : k.toNat < bM b := by omega
    have a1 := hX.2.2.2.1 _ h1
    have a2 := hM.2.2.2.1 _ h1
    have a3 := hB.2.2.2.1 _ h1
    exact ⟨a1.1, a2.1, a3.1, a3.2.1, a1.2.1, a2.2.1, a3.2.2.1, by omega⟩
  have keyT : 0 ≤ k ∧ k < Z 1 0 → Z 2 k.toNat = bW b k.toNat ∧ Z 28 k.toNat = bW b k.toNat ∧ -99 ≤ bW b k.toNat ∧ bW b k.toNat ≤ 99 ∧ Z 3 k.toNat = bT b k.toNat ∧ Z 29 k.toNat = bT b k.toNat ∧ 0 ≤ bT b k.toNat ∧ bT b k.toNat ≤ 9 := fun hr => by
    have h1 : k.toNat < bN b := by omega
    have a1 := hX.2.2.1 _ h1
    have a2 := hM.2.2.1 _ h1
    have a3 := hB.2.2.1 _ h1
    exact ⟨a1.1, a2.1, a3.1, a3.2.1, a1.2, a2.2, a3.2.2.1, a3.2.2.2⟩
  obtain ⟨x1, x2, x3, x4, x5⟩ := hX
  obtain ⟨m1, m2, m3, m4, m5⟩ := hM
  have fin0 : 0 ≤ k ∧ k < Z 1 1 → (0 ≤ v ∧ ((bK b k.toNat = 0 ∧ v ≤ 999) ∨ (¬ bK b k.toNat = 0 ∧ v ≤ 9))) → Inv SV CN (bkLimit b k.toNat v) (zu (zu (zu (zu Z 7 (k.toNat) v) 0 5 0) 0 6 0) 33 k.toNat v) Y := fun hr hl => by
    refine ⟨hB.limit hl, ⟨by simp [zu]; exact x1, by simp [zu]; exact x2, fun t ht => by have := x3 t ht; simp [zu]; exact this, fun r' hr' => ?_, fun r' t hr' ht => by have := x5 r' t hr' ht; simp [zu]; exact this⟩, ⟨by simp [zu]; exact m1, by simp [zu]; exact m2, fun t ht => by have := m3 t ht; simp [zu]; exact this, fun r' hr' => ?_, fun r' t hr' ht => by have := m5 r' t hr' ht; simp [zu]; exact this⟩, fun t ht => by have := hP t ht; simp [zu]; exact this, Or.inl (by simp [zu]), Or.inl (by simp [zu])⟩
    · have := x4 r' hr'
      rw [li_I]
      by_cases e : r' = k.toNat
      · simp [zu, e] at this ⊢; exact ⟨this.1, this.2.2⟩
      · simp [zu, e]; exact this
    · have := m4 r' hr'
      rw [li_I]
      by_cases e : r' = k.toNat
      · simp [zu, e] at this ⊢; exact ⟨this.1, this.2.2⟩
      · simp [zu, e]; exact this
  have fin1 : 0 ≤ k ∧ k < Z 1 0 → (-99 ≤ v ∧ v ≤ 99) → Inv SV CN (bkWorth b k.toNat v) (zu (zu (zu (zu Z 2 (k.toNat) v) 0 5 0) 0 6 0) 28 k.toNat v) Y := fun hr hl => by
    refine ⟨hB.worth hl, ⟨by simp [zu]; exact x1, by simp [zu]; exact x2, fun t ht => ?_, fun r' hr' => by have := x4 r' hr'; simp [zu]; exact this, fun r' t hr' ht => by have := x5 r' t hr' ht; simp [zu]; exact this⟩, ⟨by simp [zu]; exact m1, by simp [zu]; exact m2, fun t ht => ?_, fun r' hr' => by have := m4 r' hr'; simp [zu]; exact this, fun r' t hr' ht => by have := m5 r' t hr' ht; simp [zu]; exact this⟩, fun t ht => by have := hP t ht; simp [zu]; exact this, Or.inl (by simp [zu]), Or.inl (by simp [zu])⟩
    · have := x3 t ht
      rw [wo_W]
      by_cases e : t = k.toNat
      · simp [zu, e] at this ⊢; exact this.2
      · simp [zu, e]; exact this
    · have := m3 t ht
      rw [wo_W]
      by_cases e : t = k.toNat
      · simp [zu, e] at this ⊢; exact this.2
      · simp [zu, e]; exact this
  have fin2 : 0 ≤ k ∧ k < Z 1 0 → (0 ≤ v ∧ v ≤ 9) → Inv SV CN (bkMost b k.toNat v) (zu (zu (zu (zu Z 3 (k.toNat) v) 0 5 0) 0 6 0) 29 k.toNat v) Y := fun hr hl => by
    refine ⟨hB.most hl, ⟨by simp [zu]; exact x1, by simp [zu]; exact x2, fun t ht => ?_, fun r' hr' => by have := x4 r' hr'; simp [zu]; exact this, fun r' t hr' ht => by have := x5 r' t hr' ht; simp [zu]; exact this⟩, ⟨by simp [zu]; exact m1, by simp [zu]; exact m2, fun t ht => ?_, fun r' hr' => by have := m4 r' hr'; simp [zu]; exact this, fun r' t hr' ht => by have := m5 r' t hr' ht; simp [zu]; exact this⟩, fun t ht => by have := hP t ht; simp [zu]; exact this, Or.inl (by simp [zu]), Or.inl (by simp [zu])⟩
    · have := x3 t ht
      rw [mo_T]
      by_cases e : t = k.toNat
      · simp [zu, e] at this ⊢; exact this.1
      · simp [zu, e]; exact this
    · have := m3 t ht
      rw [mo_T]
      by_cases e : t = k.toNat
      · simp [zu, e] at this ⊢; exact this.1
      · simp [zu, e]; exact this
  refine jj_Ci.deep (d := d + 2) (by omega) (kX4_set hw hk hv (by omega) (by omega) (fun c => by have := keyR c; omega) (fun c => ⟨_, _, rfl, by omega, ?_⟩) (fun c => ⟨_, _, rfl, by have := keyR c.2.1; omega, ?_⟩) (fun c => ⟨_, _, rfl, by have := keyT c.2.1; omega, ?_⟩) (fun c => ⟨_, _, rfl, by have := keyT c.2.1; omega, ?_⟩))
  · refine jj_Ci.deep (d := d + 2) (by omega) (kX5_set hw hk hv (by omega) (by omega) (fun c => by have := keyR (by omega); omega) (fun c' => ⟨rfl, b, _, _, rfl, h⟩) (fun c' => ?_) (fun c' => by omega) (fun c' => by omega))
    have := keyR (by omega)
    omega
  · have k1 := keyR c.2.1
    refine jj_Ci.deep (d := d + 2) (by omega) (kX5_set hw hk hv (by simp [zu]; omega) (by simp [zu]; omega) (fun c => by simp [zu]; omega) (fun c' => by simp [zu] at c'; omega) (fun c' => ⟨by simp [zu]; omega, _, _, _, rfl, fin0 c.2.1 (by omega)⟩) (fun c' => by simp [zu] at c'; omega) (fun c' => by simp [zu] at c'; omega))
  · have k1 := keyT c.2.1
    refine jj_Ci.deep (d := d + 2) (by omega) (kX5_set hw hk hv (by simp [zu]; omega) (by simp [zu]; omega) (fun c => ?_) (fun c' => by simp [zu] at c'; omega) (fun c' => by simp [zu] at c'; omega) (fun c' => ⟨by simp [zu]; omega, _, _, _, rfl, fin1 c.2.1 (by omega)⟩) (fun c' => by simp [zu] at c'; omega))
    simp [zu] at c ⊢
    have := keyR (by omega)
    omega
  · have k1 := keyT c.2.1
    refine jj_Ci.deep (d := d + 2) (by omega) (kX5_set hw hk hv (by simp [zu]; omega) (by simp [zu]; omega) (fun c => ?_) (fun c' => by simp [zu] at c'; omega) (fun c' => by simp [zu] at c'; omega) (fun c' => by simp [zu] at c'; omega) (fun c' => ⟨by simp [zu]; omega, _, _, _, rfl, fin2 c.2.1 (by omega)⟩))
    simp [zu] at c ⊢
    have := keyR (by omega)
    omega
end OP2

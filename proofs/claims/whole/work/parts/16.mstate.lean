/-! the reference: what changes its book -/
theorem kX5_in {d : Nat} {Z Y : Nat → Nat → Int} {S : Nat × (Nat → Int32)} {K : Int → jj_Hp → Prop} {v a b : Int} (hv : -9223372036854775808 ≤ v ∧ v ≤ 9223372036854775807) (ha : -9223372036854775808 ≤ a ∧ a ≤ 9223372036854775807) (hb : -9223372036854775808 ≤ b ∧ b ≤ 9223372036854775807) (k0 : a ≤ v ∧ v ≤ b → K 1 (jj_h Z Y S)) (k1 : ¬ (a ≤ v ∧ v ≤ b) → K 0 (jj_h Z Y S)) : jj_Ci d mX5_in [lv v, lv a, lv b] (jj_h Z Y S) K := by
  refine nX5_in ?_
  refine bX5_in_0 (by first | omega | (simp only [il_2, il_3, il_7, il_9, il_18, il_19, il_36, il_37]; omega) | (simp [zu]; done) | (simp [zu]; omega)) (by first | omega | (simp only [il_2, il_3, il_7, il_9, il_18, il_19, il_36, il_37]; omega) | (simp [zu]; done) | (simp [zu]; omega)) (fun z0 => ?_) (fun z0 => ?_)
  · skip
    try (exfalso; omega)
    all_goals
      exact bX5_in_17  ⟨_, rfl, by first | exact k0 (by first | omega | (simp only [il_2, il_3, il_7, il_9, il_18, il_19, il_36, il_37]; omega) | (simp [zu]; done) | (simp [zu]; omega)) | exact k1 (by first | omega | (simp only [il_2, il_3, il_7, il_9, il_18, il_19, il_36, il_37]; omega) | (simp [zu]; done) | (simp [zu]; omega))⟩
  · skip
    try (exfalso; omega)
    all_goals
      refine bX5_in_6 (by first | omega | (simp only [il_2, il_3, il_7, il_9, il_18, il_19, il_36, il_37]; omega) | (simp [zu]; done) | (simp [zu]; omega)) (by first | omega | (simp only [il_2, il_3, il_7, il_9, il_18, il_19, il_36, il_37]; omega) | (simp [zu]; done) | (simp [zu]; omega)) (fun z6 => ?_) (fun z6 => ?_)
      · skip
        try (exfalso; omega)
        all_goals
          exact bX5_in_17  ⟨_, rfl, by first | exact k0 (by first | omega | (simp only [il_2, il_3, il_7, il_9, il_18, il_19, il_36, il_37]; omega) | (simp [zu]; done) | (simp [zu]; omega)) | exact k1 (by first | omega | (simp only [il_2, il_3, il_7, il_9, il_18, il_19, il_36, il_37]; omega) | (simp [zu]; done) | (simp [zu]; omega))⟩
      · skip
        try (exfalso; omega)
        all_goals
          exact bX5_in_13  ⟨_, rfl, by first | exact k0 (by first | omega | (simp only [il_2, il_3, il_7, il_9, il_18, il_19, il_36, il_37]; omega) | (simp [zu]; done) | (simp [zu]; omega)) | exact k1 (by first | omega | (simp only [il_2, il_3, il_7, il_9, il_18, il_19, il_36, il_37]; omega) | (simp [zu]; done) | (simp [zu]; omega))⟩
theorem kX5_isThing {d : Nat} {Z Y : Nat → Nat → Int} {S : Nat × (Nat → Int32)} {K : Int → jj_Hp → Prop} {t : Int} (ht : -2147483648 ≤ t ∧ t ≤ 2147483647) (hn : 0 ≤ Z 27 0 ∧ Z 27 0 ≤ 4) (k0 : 0 ≤ t ∧ t < Z 27 0 → K 1 (jj_h Z Y S)) (k1 : ¬ (0 ≤ t ∧ t < Z 27 0) → K 0 (jj_h Z Y S)) : jj_Ci (d + 1) mX5_isThing [.ref 27, iv t] (jj_h Z Y S) K := by
  refine nX5_isThing ?_
  refine bX5_isThing_0 (by first | omega | (simp only [il_2, il_3, il_7, il_9, il_18, il_19, il_36, il_37]; omega) | (simp [zu]; done) | (simp [zu]; omega)) (by first | omega | (simp only [il_2, il_3, il_7, il_9, il_18, il_19, il_36, il_37]; omega) | (simp [zu]; done) | (simp [zu]; omega)) ?_
  refine kX5_in (by first | omega | (simp only [il_2, il_3, il_7, il_9, il_18, il_19, il_36, il_37]; omega) | (simp [zu]; done) | (simp [zu]; omega)) (by first | omega | (simp only [il_2, il_3, il_7, il_9, il_18, il_19, il_36, il_37]; omega) | (simp [zu]; done) | (simp [zu]; omega)) (by first | omega | (simp only [il_2, il_3, il_7, il_9, il_18, il_19, il_36, il_37]; omega) | (simp [zu]; done) | (simp [zu]; omega)) (fun z0 => ?_) (fun z0 => ?_)
  · skip
    try (exfalso; omega)
    all_goals
      exact bX5_isThing_13 (by first | omega | (simp only [il_2, il_3, il_7, il_9, il_18, il_19, il_36, il_37]; omega) | (simp [zu]; done) | (simp [zu]; omega)) ⟨_, rfl, by first | exact k0 (by first | omega | (simp only [il_2, il_3, il_7, il_9, il_18, il_19, il_36, il_37]; omega) | (simp [zu]; done) | (simp [zu]; omega)) | exact k1 (by first | omega | (simp only [il_2, il_3, il_7, il_9, il_18, il_19, il_36, il_37]; omega) | (simp [zu]; done) | (simp [zu]; omega))⟩
  · skip
    try (exfalso; omega)
    all_goals
      exact bX5_isThing_13 (by first | omega | (simp only [il_2, il_3, il_7, il_9, il_18, il_19, il_36, il_37]; omega) | (simp [zu]; done) | (simp [zu]; omega)) ⟨_, rfl, by first | exact k0 (by first | omega | (simp only [il_2, il_3, il_7, il_9, il_18, il_19, il_36, il_37]; omega) | (simp [zu]; done) | (simp [zu]; omega)) | exact k1 (by first | omega | (simp only [il_2, il_3, il_7, il_9, il_18, il_19, il_36, il_37]; omega) | (simp [zu]; done) | (simp [zu]; omega))⟩
theorem kX5_isRule {d : Nat} {Z Y : Nat → Nat → Int} {S : Nat × (Nat → Int32)} {K : Int → jj_Hp → Prop} {t : Int} (ht : -2147483648 ≤ t ∧ t ≤ 2147483647) (hm : 0 ≤ Z 27 3 ∧ Z 27 3 ≤ 6) (k0 : 0 ≤ t ∧ t < Z 27 3 → K 1 (jj_h Z Y S)) (k1 : ¬ (0 ≤ t ∧ t < Z 27 3) → K 0 (jj_h Z Y S)) : jj_Ci (d + 1) mX5_isRule [.ref 27, iv t] (jj_h Z Y S) K := by
  refine nX5_isRule ?_
  refine bX5_isRule_0 (by first | omega | (simp only [il_2, il_3, il_7, il_9, il_18, il_19, il_36, il_37]; omega) | (simp [zu]; done) | (simp [zu]; omega)) (by first | omega | (simp only [il_2, il_3, il_7, il_9, il_18, il_19, il_36, il_37]; omega) | (simp [zu]; done) | (simp [zu]; omega)) ?_
  refine kX5_in (by first | omega | (simp only [il_2, il_3, il_7, il_9, il_18, il_19, il_36, il_37]; omega) | (simp [zu]; done) | (simp [zu]; omega)) (by first | omega | (simp only [il_2, il_3, il_7, il_9, il_18, il_19, il_36, il_37]; omega) | (simp [zu]; done) | (simp [zu]; omega)) (by first | omega | (simp only [il_2, il_3, il_7, il_9, il_18, il_19, il_36, il_37]; omega) | (simp [zu]; done) | (simp [zu]; omega)) (fun z0 => ?_) (fun z0 => ?_)
  · skip
    try (exfalso; omega)
    all_goals
      exact bX5_isRule_13 (by first | omega | (simp only [il_2, il_3, il_7, il_9, il_18, il_19, il_36, il_37]; omega) | (simp [zu]; done) | (simp [zu]; omega)) ⟨_, rfl, by first | exact k0 (by first | omega | (simp only [il_2, il_3, il_7, il_9, il_18, il_19, il_36, il_37]; omega) | (simp [zu]; done) | (simp [zu]; omega)) | exact k1 (by first | omega | (simp only [il_2, il_3, il_7, il_9, il_18, il_19, il_36, il_37]; omega) | (simp [zu]; done) | (simp [zu]; omega))⟩
  · skip
    try (exfalso; omega)
    all_goals
      exact bX5_isRule_13 (by first | omega | (simp only [il_2, il_3, il_7, il_9, il_18, il_19, il_36, il_37]; omega) | (simp [zu]; done) | (simp [zu]; omega)) ⟨_, rfl, by first | exact k0 (by first | omega | (simp only [il_2, il_3, il_7, il_9, il_18, il_19, il_36, il_37]; omega) | (simp [zu]; done) | (simp [zu]; omega)) | exact k1 (by first | omega | (simp only [il_2, il_3, il_7, il_9, il_18, il_19, il_36, il_37]; omega) | (simp [zu]; done) | (simp [zu]; omega))⟩
theorem kX5_isLimit {d : Nat} {Z Y : Nat → Nat → Int} {S : Nat × (Nat → Int32)} {K : Int → jj_Hp → Prop} {q v : Int} (hq : -2147483648 ≤ q ∧ q ≤ 2147483647) (hv : -9223372036854775808 ≤ v ∧ v ≤ 9223372036854775807) (k0 : (0 ≤ v ∧ ((q = 0 ∧ v ≤ 999) ∨ (¬ q = 0 ∧ v ≤ 9))) → K 1 (jj_h Z Y S)) (k1 : ¬ (0 ≤ v ∧ ((q = 0 ∧ v ≤ 999) ∨ (¬ q = 0 ∧ v ≤ 9))) → K 0 (jj_h Z Y S)) : jj_Ci (d + 1) mX5_isLimit [iv q, lv v] (jj_h Z Y S) K := by
  refine nX5_isLimit ?_
  refine bX5_isLimit_0 (by first | omega | (simp only [il_2, il_3, il_7, il_9, il_18, il_19, il_36, il_37]; omega) | (simp [zu]; done) | (simp [zu]; omega)) (fun z0 => ?_) (fun z0 => ?_)
  · skip
    try (exfalso; omega)
    all_goals
      refine bX5_isLimit_12  ?_
      refine kX5_in (by first | omega | (simp only [il_2, il_3, il_7, il_9, il_18, il_19, il_36, il_37]; omega) | (simp [zu]; done) | (simp [zu]; omega)) (by first | omega | (simp only [il_2, il_3, il_7, il_9, il_18, il_19, il_36, il_37]; omega) | (simp [zu]; done) | (simp [zu]; omega)) (by first | omega | (simp only [il_2, il_3, il_7, il_9, il_18, il_19, il_36, il_37]; omega) | (simp [zu]; done) | (simp [zu]; omega)) (fun z12 => ?_) (fun z12 => ?_)
      · skip
        try (exfalso; omega)
        all_goals
          exact bX5_isLimit_18 (by first | omega | (simp only [il_2, il_3, il_7, il_9, il_18, il_19, il_36, il_37]; omega) | (simp [zu]; done) | (simp [zu]; omega)) ⟨_, rfl, by first | exact k0 (by first | omega | (simp only [il_2, il_3, il_7, il_9, il_18, il_19, il_36, il_37]; omega) | (simp [zu]; done) | (simp [zu]; omega)) | exact k1 (by first | omega | (simp only [il_2, il_3, il_7, il_9, il_18, il_19, il_36, il_37]; omega) | (simp [zu]; done) | (simp [zu]; omega))⟩
      · skip
        try (exfalso; omega)
        all_goals
          exact bX5_isLimit_18 (by first | omega | (simp only [il_2, il_3, il_7, il_9, il_18, il_19, il_36, il_37]; omega) | (simp [zu]; done) | (simp [zu]; omega)) ⟨_, rfl, by first | exact k0 (by first | omega | (simp only [il_2, il_3, il_7, il_9, il_18, il_19, il_36, il_37]; omega) | (simp [zu]; done) | (simp [zu]; omega)) | exact k1 (by first | omega | (simp only [il_2, il_3, il_7, il_9, il_18, il_19, il_36, il_37]; omega) | (simp [zu]; done) | (simp [zu]; omega))⟩
  · skip
    try (exfalso; omega)
    all_goals
      refine bX5_isLimit_6  ?_
      refine kX5_in (by first | omega | (simp only [il_2, il_3, il_7, il_9, il_18, il_19, il_36, il_37]; omega) | (simp [zu]; done) | (simp [zu]; omega)) (by first | omega | (simp only [il_2, il_3, il_7, il_9, il_18, il_19, il_36, il_37]; omega) | (simp [zu]; done) | (simp [zu]; omega)) (by first | omega | (simp only [il_2, il_3, il_7, il_9, il_18, il_19, il_36, il_37]; omega) | (simp [zu]; done) | (simp [zu]; omega)) (fun z6 => ?_) (fun z6 => ?_)
      · skip
        try (exfalso; omega)
        all_goals
          exact bX5_isLimit_18 (by first | omega | (simp only [il_2, il_3, il_7, il_9, il_18, il_19, il_36, il_37]; omega) | (simp [zu]; done) | (simp [zu]; omega)) ⟨_, rfl, by first | exact k0 (by first | omega | (simp only [il_2, il_3, il_7, il_9, il_18, il_19, il_36, il_37]; omega) | (simp [zu]; done) | (simp [zu]; omega)) | exact k1 (by first | omega | (simp only [il_2, il_3, il_7, il_9, il_18, il_19, il_36, il_37]; omega) | (simp [zu]; done) | (simp [zu]; omega))⟩
      · skip
        try (exfalso; omega)
        all_goals
          exact bX5_isLimit_18 (by first | omega | (simp only [il_2, il_3, il_7, il_9, il_18, il_19, il_36, il_37]; omega) | (simp [zu]; done) | (simp [zu]; omega)) ⟨_, rfl, by first | exact k0 (by first | omega | (simp only [il_2, il_3, il_7, il_9, il_18, il_19, il_36, il_37]; omega) | (simp [zu]; done) | (simp [zu]; omega)) | exact k1 (by first | omega | (simp only [il_2, il_3, il_7, il_9, il_18, il_19, il_36, il_37]; omega) | (simp [zu]; done) | (simp [zu]; omega))⟩
theorem kX5_thing {d : Nat} {Z Y : Nat → Nat → Int} {S : Nat × (Nat → Int32)} {K : Int → jj_Hp → Prop} {w q : Int} (hw : -2147483648 ≤ w ∧ w ≤ 2147483647) (hq : -2147483648 ≤ q ∧ q ≤ 2147483647) (hn : 0 ≤ Z 27 0 ∧ Z 27 0 ≤ 4) (k0 : ¬ (-99 ≤ w ∧ w ≤ 99) ∨ ¬ (0 ≤ q ∧ q ≤ 9) → K (-1000001) (jj_h Z Y S)) (k1 : (-99 ≤ w ∧ w ≤ 99) ∧ (0 ≤ q ∧ q ≤ 9) ∧ Z 27 0 = 4 → K (-1000002) (jj_h Z Y S)) (k2 : (-99 ≤ w ∧ w ≤ 99) ∧ (0 ≤ q ∧ q ≤ 9) ∧ Z 27 0 < 4 → K ((Z 27 0 + 1) - 1) (jj_h (zu (zu (zu Z 28 ((Z 27 0).toNat) w) 29 ((Z 27 0).toNat) q) 27 0 ((Z 27 0) + 1)) Y S)) : jj_Ci (d + 1) mX5_thing [.ref 27, iv w, iv q] (jj_h Z Y S) K := by
  refine nX5_thing ?_
  refine bX5_thing_0 (by first | omega | (simp only [il_2, il_3, il_7, il_9, il_18, il_19, il_36, il_37]; omega) | (simp [zu]; done) | (simp [zu]; omega)) ?_
  refine kX5_in (by first | omega | (simp only [il_2, il_3, il_7, il_9, il_18, il_19, il_36, il_37]; omega) | (simp [zu]; done) | (simp [zu]; omega)) (by first | omega | (simp only [il_2, il_3, il_7, il_9, il_18, il_19, il_36, il_37]; omega) | (simp [zu]; done) | (simp [zu]; omega)) (by first | omega | (simp only [il_2, il_3, il_7, il_9, il_18, il_19, il_36, il_37]; omega) | (simp [zu]; done) | (simp [zu]; omega)) (fun z0 => ?_) (fun z0 => ?_)
  · skip
    try (exfalso; omega)
    all_goals
      refine bX5_thing_11 (by first | omega | (simp only [il_2, il_3, il_7, il_9, il_18, il_19, il_36, il_37]; omega) | (simp [zu]; done) | (simp [zu]; omega)) (fun z11 => ?_) (fun z11 => ?_)
      · exfalso; omega
      · skip
        try (exfalso; omega)
        all_goals
          refine bX5_thing_14 (by first | omega | (simp only [il_2, il_3, il_7, il_9, il_18, il_19, il_36, il_37]; omega) | (simp [zu]; done) | (simp [zu]; omega)) ?_
          refine kX5_in (by first | omega | (simp only [il_2, il_3, il_7, il_9, il_18, il_19, il_36, il_37]; omega) | (simp [zu]; done) | (simp [zu]; omega)) (by first | omega | (simp only [il_2, il_3, il_7, il_9, il_18, il_19, il_36, il_37]; omega) | (simp [zu]; done) | (simp [zu]; omega)) (by first | omega | (simp only [il_2, il_3, il_7, il_9, il_18, il_19, il_36, il_37]; omega) | (simp [zu]; done) | (simp [zu]; omega)) (fun z14 => ?_) (fun z14 => ?_)
          · skip
            try (exfalso; omega)
            all_goals
              refine bX5_thing_23 (by first | omega | (simp only [il_2, il_3, il_7, il_9, il_18, il_19, il_36, il_37]; omega) | (simp [zu]; done) | (simp [zu]; omega)) (fun z23 => ?_) (fun z23 => ?_)
              · skip
                try (exfalso; omega)
                all_goals
                  refine bX5_thing_29 (by first | omega | (simp only [il_2, il_3, il_7, il_9, il_18, il_19, il_36, il_37]; omega) | (simp [zu]; done) | (simp [zu]; omega)) (fun z29 => ?_) (fun z29 => ?_)
                  · skip
                    try (exfalso; omega)
                    all_goals
                      exact bX5_thing_40 (by first | omega | (simp only [il_2, il_3, il_7, il_9, il_18, il_19, il_36, il_37]; omega) | (simp [zu]; done) | (simp [zu]; omega)) (by first | omega | (simp only [il_2, il_3, il_7, il_9, il_18, il_19, il_36, il_37]; omega) | (simp [zu]; done) | (simp [zu]; omega)) (by first | omega | (simp only [il_2, il_3, il_7, il_9, il_18, il_19, il_36, il_37]; omega) | (simp [zu]; done) | (simp [zu]; omega)) (by first | omega | (simp only [il_2, il_3, il_7, il_9, il_18, il_19, il_36, il_37]; omega) | (simp [zu]; done) | (simp [zu]; omega)) ⟨_, rfl, by first | exact k0 (by first | omega | (simp only [il_2, il_3, il_7, il_9, il_18, il_19, il_36, il_37]; omega) | (simp [zu]; done) | (simp [zu]; omega)) | exact k1 (by first | omega | (simp only [il_2, il_3, il_7, il_9, il_18, il_19, il_36, il_37]; omega) | (simp [zu]; done) | (simp [zu]; omega)) | exact k2 (by first | omega | (simp only [il_2, il_3, il_7, il_9, il_18, il_19, il_36, il_37]; omega) | (simp [zu]; done) | (simp [zu]; omega))⟩
                  · skip
                    try (exfalso; omega)
                    all_goals
                      exact bX5_thing_37  ⟨_, rfl, by first | exact k0 (by first | omega | (simp only [il_2, il_3, il_7, il_9, il_18, il_19, il_36, il_37]; omega) | (simp [zu]; done) | (simp [zu]; omega)) | exact k1 (by first | omega | (simp only [il_2, il_3, il_7, il_9, il_18, il_19, il_36, il_37]; omega) | (simp [zu]; done) | (simp [zu]; omega)) | exact k2 (by first | omega | (simp only [il_2, il_3, il_7, il_9, il_18, il_19, il_36, il_37]; omega) | (simp [zu]; done) | (simp [zu]; omega))⟩
              · exfalso; omega
          · skip
            try (exfalso; omega)
            all_goals
              refine bX5_thing_23 (by first | omega | (simp only [il_2, il_3, il_7, il_9, il_18, il_19, il_36, il_37]; omega) | (simp [zu]; done) | (simp [zu]; omega)) (fun z23 => ?_) (fun z23 => ?_)
              · exfalso; omega
              · skip
                try (exfalso; omega)
                all_goals
                  exact bX5_thing_26  ⟨_, rfl, by first | exact k0 (by first | omega | (simp only [il_2, il_3, il_7, il_9, il_18, il_19, il_36, il_37]; omega) | (simp [zu]; done) | (simp [zu]; omega)) | exact k1 (by first | omega | (simp only [il_2, il_3, il_7, il_9, il_18, il_19, il_36, il_37]; omega) | (simp [zu]; done) | (simp [zu]; omega)) | exact k2 (by first | omega | (simp only [il_2, il_3, il_7, il_9, il_18, il_19, il_36, il_37]; omega) | (simp [zu]; done) | (simp [zu]; omega))⟩
  · skip
    try (exfalso; omega)
    all_goals
      refine bX5_thing_11 (by first | omega | (simp only [il_2, il_3, il_7, il_9, il_18, il_19, il_36, il_37]; omega) | (simp [zu]; done) | (simp [zu]; omega)) (fun z11 => ?_) (fun z11 => ?_)
      · skip
        try (exfalso; omega)
        all_goals
          exact bX5_thing_26  ⟨_, rfl, by first | exact k0 (by first | omega | (simp only [il_2, il_3, il_7, il_9, il_18, il_19, il_36, il_37]; omega) | (simp [zu]; done) | (simp [zu]; omega)) | exact k1 (by first | omega | (simp only [il_2, il_3, il_7, il_9, il_18, il_19, il_36, il_37]; omega) | (simp [zu]; done) | (simp [zu]; omega)) | exact k2 (by first | omega | (simp only [il_2, il_3, il_7, il_9, il_18, il_19, il_36, il_37]; omega) | (simp [zu]; done) | (simp [zu]; omega))⟩
      · exfalso; omega
theorem kX5_rule {d : Nat} {Z Y : Nat → Nat → Int} {S : Nat × (Nat → Int32)} {K : Int → jj_Hp → Prop} {q a b l : Int} (hq : -2147483648 ≤ q ∧ q ≤ 2147483647) (ha : -2147483648 ≤ a ∧ a ≤ 2147483647) (hb : -2147483648 ≤ b ∧ b ≤ 2147483647) (hl : -2147483648 ≤ l ∧ l ≤ 2147483647) (hn : 0 ≤ Z 27 0 ∧ Z 27 0 ≤ 4) (hm : 0 ≤ Z 27 3 ∧ Z 27 3 ≤ 6) (k0 : ¬ ((0 ≤ q ∧ q ≤ 2) ∧ (0 ≤ l ∧ ((q = 0 ∧ l ≤ 999) ∨ (¬ q = 0 ∧ l ≤ 9)))) ∨ (¬ q = 0 ∧ ¬ ((0 ≤ a ∧ a < Z 27 0) ∧ (0 ≤ b ∧ b < Z 27 0))) → K (-1000001) (jj_h Z Y S)) (k1 : ((0 ≤ q ∧ q ≤ 2) ∧ (0 ≤ l ∧ ((q = 0 ∧ l ≤ 999) ∨ (¬ q = 0 ∧ l ≤ 9)))) ∧ (q = 0 ∨ ((0 ≤ a ∧ a < Z 27 0) ∧ (0 ≤ b ∧ b < Z 27 0))) ∧ Z 27 3 = 6 → K (-1000002) (jj_h Z Y S)) (k2 : ((0 ≤ q ∧ q ≤ 2) ∧ (0 ≤ l ∧ ((q = 0 ∧ l ≤ 999) ∨ (¬ q = 0 ∧ l ≤ 9)))) ∧ (q = 0 ∨ ((0 ≤ a ∧ a < Z 27 0) ∧ (0 ≤ b ∧ b < Z 27 0))) ∧ Z 27 3 < 6 → K ((Z 27 3 + 1) - 1) (jj_h (zu (zu (zu (zu (zu (zu Z 30 ((Z 27 3).toNat) q) 31 ((Z 27 3).toNat) a) 32 ((Z 27 3).toNat) b) 33 ((Z 27 3).toNat) l) 34 ((Z 27 3).toNat) 1) 27 3 ((Z 27 3) + 1)) Y S)) : jj_Ci (d + 2) mX5_rule [.ref 27, iv q, iv a, iv b, iv l] (jj_h Z Y S) K := by
  refine nX5_rule ?_
  refine bX5_rule_0 (by first | omega | (simp only [il_2, il_3, il_7, il_9, il_18, il_19, il_36, il_37]; omega) | (simp [zu]; done) | (simp [zu]; omega)) ?_
  refine kX5_in (by first | omega | (simp only [il_2, il_3, il_7, il_9, il_18, il_19, il_36, il_37]; omega) | (simp [zu]; done) | (simp [zu]; omega)) (by first | omega | (simp only [il_2, il_3, il_7, il_9, il_18, il_19, il_36, il_37]; omega) | (simp [zu]; done) | (simp [zu]; omega)) (by first | omega | (simp only [il_2, il_3, il_7, il_9, il_18, il_19, il_36, il_37]; omega) | (simp [zu]; done) | (simp [zu]; omega)) (fun z0 => ?_) (fun z0 => ?_)
  · skip
    try (exfalso; omega)
    all_goals
      refine bX5_rule_9 (by first | omega | (simp only [il_2, il_3, il_7, il_9, il_18, il_19, il_36, il_37]; omega) | (simp [zu]; done) | (simp [zu]; omega)) (fun z9 => ?_) (fun z9 => ?_)
      · exfalso; omega
      · skip
        try (exfalso; omega)
        all_goals
          refine bX5_rule_12 (by first | omega | (simp only [il_2, il_3, il_7, il_9, il_18, il_19, il_36, il_37]; omega) | (simp [zu]; done) | (simp [zu]; omega)) ?_
          refine kX5_isLimit (by first | omega | (simp only [il_2, il_3, il_7, il_9, il_18, il_19, il_36, il_37]; omega) | (simp [zu]; done) | (simp [zu]; omega)) (by first | omega | (simp only [il_2, il_3, il_7, il_9, il_18, il_19, il_36, il_37]; omega) | (simp [zu]; done) | (simp [zu]; omega)) (fun z12 => ?_) (fun z12 => ?_)
          · skip
            try (exfalso; omega)
            all_goals
              refine bX5_rule_19 (by first | omega | (simp only [il_2, il_3, il_7, il_9, il_18, il_19, il_36, il_37]; omega) | (simp [zu]; done) | (simp [zu]; omega)) (fun z19 => ?_) (fun z19 => ?_)
              · exfalso; omega
              · skip
                try (exfalso; omega)
                all_goals
                  refine bX5_rule_22 (by first | omega | (simp only [il_2, il_3, il_7, il_9, il_18, il_19, il_36, il_37]; omega) | (simp [zu]; done) | (simp [zu]; omega)) (fun z22 => ?_) (fun z22 => ?_)
                  · skip
                    try (exfalso; omega)
                    all_goals
                      refine bX5_rule_45 (by first | omega | (simp only [il_2, il_3, il_7, il_9, il_18, il_19, il_36, il_37]; omega) | (simp [zu]; done) | (simp [zu]; omega)) (fun z45 => ?_) (fun z45 => ?_)
                      · skip
                        try (exfalso; omega)
                        all_goals
                          exact bX5_rule_57 (by first | omega | (simp only [il_2, il_3, il_7, il_9, il_18, il_19, il_36, il_37]; omega) | (simp [zu]; done) | (simp [zu]; omega)) (by first | omega | (simp only [il_2, il_3, il_7, il_9, il_18, il_19, il_36, il_37]; omega) | (simp [zu]; done) | (simp [zu]; omega)) (by first | omega | (simp only [il_2, il_3, il_7, il_9, il_18, il_19, il_36, il_37]; omega) | (simp [zu]; done) | (simp [zu]; omega)) (by first | omega | (simp only [il_2, il_3, il_7, il_9, il_18, il_19, il_36, il_37]; omega) | (simp [zu]; done) | (simp [zu]; omega)) (by first | omega | (simp only [il_2, il_3, il_7, il_9, il_18, il_19, il_36, il_37]; omega) | (simp [zu]; done) | (simp [zu]; omega)) (by first | omega | (simp only [il_2, il_3, il_7, il_9, il_18, il_19, il_36, il_37]; omega) | (simp [zu]; done) | (simp [zu]; omega)) (by first | omega | (simp only [il_2, il_3, il_7, il_9, il_18, il_19, il_36, il_37]; omega) | (simp [zu]; done) | (simp [zu]; omega)) (by first | omega | (simp only [il_2, il_3, il_7, il_9, il_18, il_19, il_36, il_37]; omega) | (simp [zu]; done) | (simp [zu]; omega)) (by first | omega | (simp only [il_2, il_3, il_7, il_9, il_18, il_19, il_36, il_37]; omega) | (simp [zu]; done) | (simp [zu]; omega)) (by first | omega | (simp only [il_2, il_3, il_7, il_9, il_18, il_19, il_36, il_37]; omega) | (simp [zu]; done) | (simp [zu]; omega)) ⟨_, rfl, by first | exact k0 (by first | omega | (simp only [il_2, il_3, il_7, il_9, il_18, il_19, il_36, il_37]; omega) | (simp [zu]; done) | (simp [zu]; omega)) | exact k1 (by first | omega | (simp only [il_2, il_3, il_7, il_9, il_18, il_19, il_36, il_37]; omega) | (simp [zu]; done) | (simp [zu]; omega)) | exact k2 (by first | omega | (simp only [il_2, il_3, il_7, il_9, il_18, il_19, il_36, il_37]; omega) | (simp [zu]; done) | (simp [zu]; omega))⟩
                      · skip
                        try (exfalso; omega)
                        all_goals
                          exact bX5_rule_54  ⟨_, rfl, by first | exact k0 (by first | omega | (simp only [il_2, il_3, il_7, il_9, il_18, il_19, il_36, il_37]; omega) | (simp [zu]; done) | (simp [zu]; omega)) | exact k1 (by first | omega | (simp only [il_2, il_3, il_7, il_9, il_18, il_19, il_36, il_37]; omega) | (simp [zu]; done) | (simp [zu]; omega)) | exact k2 (by first | omega | (simp only [il_2, il_3, il_7, il_9, il_18, il_19, il_36, il_37]; omega) | (simp [zu]; done) | (simp [zu]; omega))⟩
                  · skip
                    try (exfalso; omega)
                    all_goals
                      refine bX5_rule_26  ?_
                      refine kX5_isThing (by first | omega | (simp only [il_2, il_3, il_7, il_9, il_18, il_19, il_36, il_37]; omega) | (simp [zu]; done) | (simp [zu]; omega)) (by first | omega | (simp only [il_2, il_3, il_7, il_9, il_18, il_19, il_36, il_37]; omega) | (simp [zu]; done) | (simp [zu]; omega)) (fun z26 => ?_) (fun z26 => ?_)
                      · skip
                        try (exfalso; omega)
                        all_goals
                          refine bX5_rule_31 (by first | omega | (simp only [il_2, il_3, il_7, il_9, il_18, il_19, il_36, il_37]; omega) | (simp [zu]; done) | (simp [zu]; omega)) (fun z31 => ?_) (fun z31 => ?_)
                          · exfalso; omega
                          · skip
                            try (exfalso; omega)
                            all_goals
                              refine bX5_rule_34  ?_
                              refine kX5_isThing (by first | omega | (simp only [il_2, il_3, il_7, il_9, il_18, il_19, il_36, il_37]; omega) | (simp [zu]; done) | (simp [zu]; omega)) (by first | omega | (simp only [il_2, il_3, il_7, il_9, il_18, il_19, il_36, il_37]; omega) | (simp [zu]; done) | (simp [zu]; omega)) (fun z34 => ?_) (fun z34 => ?_)
                              · skip
                                try (exfalso; omega)
                                all_goals
                                  refine bX5_rule_39 (by first | omega | (simp only [il_2, il_3, il_7, il_9, il_18, il_19, il_36, il_37]; omega) | (simp [zu]; done) | (simp [zu]; omega)) (fun z39 => ?_) (fun z39 => ?_)
                                  · skip
                                    try (exfalso; omega)
                                    all_goals
                                      refine bX5_rule_45 (by first | omega | (simp only [il_2, il_3, il_7, il_9, il_18, il_19, il_36, il_37]; omega) | (simp [zu]; done) | (simp [zu]; omega)) (fun z45 => ?_) (fun z45 => ?_)
                                      · skip
                                        try (exfalso; omega)
                                        all_goals
                                          exact bX5_rule_57 (by first | omega | (simp only [il_2, il_3, il_7, il_9, il_18, il_19, il_36, il_37]; omega) | (simp [zu]; done) | (simp [zu]; omega)) (by first | omega | (simp only [il_2, il_3, il_7, il_9, il_18, il_19, il_36, il_37]; omega) | (simp [zu]; done) | (simp [zu]; omega)) (by first | omega | (simp only [il_2, il_3, il_7, il_9, il_18, il_19, il_36, il_37]; omega) | (simp [zu]; done) | (simp [zu]; omega)) (by first | omega | (simp only [il_2, il_3, il_7, il_9, il_18, il_19, il_36, il_37]; omega) | (simp [zu]; done) | (simp [zu]; omega)) (by first | omega | (simp only [il_2, il_3, il_7, il_9, il_18, il_19, il_36, il_37]; omega) | (simp [zu]; done) | (simp [zu]; omega)) (by first | omega | (simp only [il_2, il_3, il_7, il_9, il_18, il_19, il_36, il_37]; omega) | (simp [zu]; done) | (simp [zu]; omega)) (by first | omega | (simp only [il_2, il_3, il_7, il_9, il_18, il_19, il_36, il_37]; omega) | (simp [zu]; done) | (simp [zu]; omega)) (by first | omega | (simp only [il_2, il_3, il_7, il_9, il_18, il_19, il_36, il_37]; omega) | (simp [zu]; done) | (simp [zu]; omega)) (by first | omega | (simp only [il_2, il_3, il_7, il_9, il_18, il_19, il_36, il_37]; omega) | (simp [zu]; done) | (simp [zu]; omega)) (by first | omega | (simp only [il_2, il_3, il_7, il_9, il_18, il_19, il_36, il_37]; omega) | (simp [zu]; done) | (simp [zu]; omega)) ⟨_, rfl, by first | exact k0 (by first | omega | (simp only [il_2, il_3, il_7, il_9, il_18, il_19, il_36, il_37]; omega) | (simp [zu]; done) | (simp [zu]; omega)) | exact k1 (by first | omega | (simp only [il_2, il_3, il_7, il_9, il_18, il_19, il_36, il_37]; omega) | (simp [zu]; done) | (simp [zu]; omega)) | exact k2 (by first | omega | (simp only [il_2, il_3, il_7, il_9, il_18, il_19, il_36, il_37]; omega) | (simp [zu]; done) | (simp [zu]; omega))⟩
                                      · skip
                                        try (exfalso; omega)
                                        all_goals
                                          exact bX5_rule_54  ⟨_, rfl, by first | exact k0 (by first | omega | (simp only [il_2, il_3, il_7, il_9, il_18, il_19, il_36, il_37]; omega) | (simp [zu]; done) | (simp [zu]; omega)) | exact k1 (by first | omega | (simp only [il_2, il_3, il_7, il_9, il_18, il_19, il_36, il_37]; omega) | (simp [zu]; done) | (simp [zu]; omega)) | exact k2 (by first | omega | (simp only [il_2, il_3, il_7, il_9, il_18, il_19, il_36, il_37]; omega) | (simp [zu]; done) | (simp [zu]; omega))⟩
                                  · exfalso; omega
                              · skip
                                try (exfalso; omega)
                                all_goals
                                  refine bX5_rule_39 (by first | omega | (simp only [il_2, il_3, il_7, il_9, il_18, il_19, il_36, il_37]; omega) | (simp [zu]; done) | (simp [zu]; omega)) (fun z39 => ?_) (fun z39 => ?_)
                                  · exfalso; omega
                                  · skip
                                    try (exfalso; omega)
                                    all_goals
                                      exact bX5_rule_42  ⟨_, rfl, by first | exact k0 (by first | omega | (simp only [il_2, il_3, il_7, il_9, il_18, il_19, il_36, il_37]; omega) | (simp [zu]; done) | (simp [zu]; omega)) | exact k1 (by first | omega | (simp only [il_2, il_3, il_7, il_9, il_18, il_19, il_36, il_37]; omega) | (simp [zu]; done) | (simp [zu]; omega)) | exact k2 (by first | omega | (simp only [il_2, il_3, il_7, il_9, il_18, il_19, il_36, il_37]; omega) | (simp [zu]; done) | (simp [zu]; omega))⟩
                      · skip
                        try (exfalso; omega)
                        all_goals
                          refine bX5_rule_31 (by first | omega | (simp only [il_2, il_3, il_7, il_9, il_18, il_19, il_36, il_37]; omega) | (simp [zu]; done) | (simp [zu]; omega)) (fun z31 => ?_) (fun z31 => ?_)
                          · skip
                            try (exfalso; omega)
                            all_goals
                              exact bX5_rule_42  ⟨_, rfl, by first | exact k0 (by first | omega | (simp only [il_2, il_3, il_7, il_9, il_18, il_19, il_36, il_37]; omega) | (simp [zu]; done) | (simp [zu]; omega)) | exact k1 (by first | omega | (simp only [il_2, il_3, il_7, il_9, il_18, il_19, il_36, il_37]; omega) | (simp [zu]; done) | (simp [zu]; omega)) | exact k2 (by first | omega | (simp only [il_2, il_3, il_7, il_9, il_18, il_19, il_36, il_37]; omega) | (simp [zu]; done) | (simp [zu]; omega))⟩
                          · exfalso; omega
          · skip
            try (exfalso; omega)
            all_goals
              refine bX5_rule_19 (by first | omega | (simp only [il_2, il_3, il_7, il_9, il_18, il_19, il_36, il_37]; omega) | (simp [zu]; done) | (simp [zu]; omega)) (fun z19 => ?_) (fun z19 => ?_)
              · skip
                try (exfalso; omega)
                all_goals
                  exact bX5_rule_42  ⟨_, rfl, by first | exact k0 (by first | omega | (simp only [il_2, il_3, il_7, il_9, il_18, il_19, il_36, il_37]; omega) | (simp [zu]; done) | (simp [zu]; omega)) | exact k1 (by first | omega | (simp only [il_2, il_3, il_7, il_9, il_18, il_19, il_36, il_37]; omega) | (simp [zu]; done) | (simp [zu]; omega)) | exact k2 (by first | omega | (simp only [il_2, il_3, il_7, il_9, il_18, il_19, il_36, il_37]; omega) | (simp [zu]; done) | (simp [zu]; omega))⟩
              · exfalso; omega
  · skip
    try (exfalso; omega)
    all_goals
      refine bX5_rule_9 (by first | omega | (simp only [il_2, il_3, il_7, il_9, il_18, il_19, il_36, il_37]; omega) | (simp [zu]; done) | (simp [zu]; omega)) (fun z9 => ?_) (fun z9 => ?_)
      · skip
        try (exfalso; omega)
        all_goals
          exact bX5_rule_42  ⟨_, rfl, by first | exact k0 (by first | omega | (simp only [il_2, il_3, il_7, il_9, il_18, il_19, il_36, il_37]; omega) | (simp [zu]; done) | (simp [zu]; omega)) | exact k1 (by first | omega | (simp only [il_2, il_3, il_7, il_9, il_18, il_19, il_36, il_37]; omega) | (simp [zu]; done) | (simp [zu]; omega)) | exact k2 (by first | omega | (simp only [il_2, il_3, il_7, il_9, il_18, il_19, il_36, il_37]; omega) | (simp [zu]; done) | (simp [zu]; omega))⟩
      · exfalso; omega
theorem kX5_amount {d : Nat} {Z Y : Nat → Nat → Int} {S : Nat × (Nat → Int32)} {K : Int → jj_Hp → Prop} {r t v : Int} (hr : -2147483648 ≤ r ∧ r ≤ 2147483647) (ht : -2147483648 ≤ t ∧ t ≤ 2147483647) (hv : -2147483648 ≤ v ∧ v ≤ 2147483647) (hn : 0 ≤ Z 27 0 ∧ Z 27 0 ≤ 4) (hm : 0 ≤ Z 27 3 ∧ Z 27 3 ≤ 6) (hk : 0 ≤ r ∧ r < Z 27 3 → -2147483648 ≤ Z 30 r.toNat ∧ Z 30 r.toNat ≤ 2147483647) (k0 : ¬ (0 ≤ r ∧ r < Z 27 3) ∨ ¬ Z 30 r.toNat = 0 ∨ ¬ (0 ≤ t ∧ t < Z 27 0) ∨ ¬ (-9 ≤ v ∧ v ≤ 9) → K (-1000001) (jj_h Z Y S)) (k1 : (0 ≤ r ∧ r < Z 27 3) ∧ Z 30 r.toNat = 0 ∧ (0 ≤ t ∧ t < Z 27 0) ∧ (-9 ≤ v ∧ v ≤ 9) → K (Z 35 (((4 * r) + t).toNat)) (jj_h (zu Z 35 (((4 * r) + t).toNat) v) Y S)) : jj_Ci (d + 2) mX5_amount [.ref 27, iv r, iv t, iv v] (jj_h Z Y S) K := by
  refine nX5_amount ?_
  refine bX5_amount_0  ?_
  refine kX5_isRule (by first | omega | (simp only [il_2, il_3, il_7, il_9, il_18, il_19, il_36, il_37]; omega) | (simp [zu]; done) | (simp [zu]; omega)) (by first | omega | (simp only [il_2, il_3, il_7, il_9, il_18, il_19, il_36, il_37]; omega) | (simp [zu]; done) | (simp [zu]; omega)) (fun z0 => ?_) (fun z0 => ?_)
  · skip
    try (exfalso; omega)
    all_goals
      refine bX5_amount_5 (by first | omega | (simp only [il_2, il_3, il_7, il_9, il_18, il_19, il_36, il_37]; omega) | (simp [zu]; done) | (simp [zu]; omega)) (fun z5 => ?_) (fun z5 => ?_)
      · exfalso; omega
      · skip
        try (exfalso; omega)
        all_goals
          refine bX5_amount_8 (by first | omega | (simp only [il_2, il_3, il_7, il_9, il_18, il_19, il_36, il_37]; omega) | (simp [zu]; done) | (simp [zu]; omega)) (by first | omega | (simp only [il_2, il_3, il_7, il_9, il_18, il_19, il_36, il_37]; omega) | (simp [zu]; done) | (simp [zu]; omega)) (by first | omega | (simp only [il_2, il_3, il_7, il_9, il_18, il_19, il_36, il_37]; omega) | (simp [zu]; done) | (simp [zu]; omega)) (fun z8 => ?_) (fun z8 => ?_)
          · skip
            try (exfalso; omega)
            all_goals
              exact bX5_amount_39  ⟨_, rfl, by first | exact k0 (by first | omega | (simp only [il_2, il_3, il_7, il_9, il_18, il_19, il_36, il_37]; omega) | (simp [zu]; done) | (simp [zu]; omega)) | exact k1 (by first | omega | (simp only [il_2, il_3, il_7, il_9, il_18, il_19, il_36, il_37]; omega) | (simp [zu]; done) | (simp [zu]; omega))⟩
          · skip
            try (exfalso; omega)
            all_goals
              refine bX5_amount_17  ?_
              refine kX5_isThing (by first | omega | (simp only [il_2, il_3, il_7, il_9, il_18, il_19, il_36, il_37]; omega) | (simp [zu]; done) | (simp [zu]; omega)) (by first | omega | (simp only [il_2, il_3, il_7, il_9, il_18, il_19, il_36, il_37]; omega) | (simp [zu]; done) | (simp [zu]; omega)) (fun z17 => ?_) (fun z17 => ?_)
              · skip
                try (exfalso; omega)
                all_goals
                  refine bX5_amount_22 (by first | omega | (simp only [il_2, il_3, il_7, il_9, il_18, il_19, il_36, il_37]; omega) | (simp [zu]; done) | (simp [zu]; omega)) (fun z22 => ?_) (fun z22 => ?_)
                  · exfalso; omega
                  · skip
                    try (exfalso; omega)
                    all_goals
                      refine bX5_amount_25 (by first | omega | (simp only [il_2, il_3, il_7, il_9, il_18, il_19, il_36, il_37]; omega) | (simp [zu]; done) | (simp [zu]; omega)) ?_
                      refine kX5_in (by first | omega | (simp only [il_2, il_3, il_7, il_9, il_18, il_19, il_36, il_37]; omega) | (simp [zu]; done) | (simp [zu]; omega)) (by first | omega | (simp only [il_2, il_3, il_7, il_9, il_18, il_19, il_36, il_37]; omega) | (simp [zu]; done) | (simp [zu]; omega)) (by first | omega | (simp only [il_2, il_3, il_7, il_9, il_18, il_19, il_36, il_37]; omega) | (simp [zu]; done) | (simp [zu]; omega)) (fun z25 => ?_) (fun z25 => ?_)
                      · skip
                        try (exfalso; omega)
                        all_goals
                          refine bX5_amount_36 (by first | omega | (simp only [il_2, il_3, il_7, il_9, il_18, il_19, il_36, il_37]; omega) | (simp [zu]; done) | (simp [zu]; omega)) (fun z36 => ?_) (fun z36 => ?_)
                          · skip
                            try (exfalso; omega)
                            all_goals
                              exact bX5_amount_42 (by first | omega | (simp only [il_2, il_3, il_7, il_9, il_18, il_19, il_36, il_37]; omega) | (simp [zu]; done) | (simp [zu]; omega)) (by first | omega | (simp only [il_2, il_3, il_7, il_9, il_18, il_19, il_36, il_37]; omega) | (simp [zu]; done) | (simp [zu]; omega)) (by first | omega | (simp only [il_2, il_3, il_7, il_9, il_18, il_19, il_36, il_37]; omega) | (simp [zu]; done) | (simp [zu]; omega)) (by first | omega | (simp only [il_2, il_3, il_7, il_9, il_18, il_19, il_36, il_37]; omega) | (simp [zu]; done) | (simp [zu]; omega)) ⟨_, rfl, by first | exact k0 (by first | omega | (simp only [il_2, il_3, il_7, il_9, il_18, il_19, il_36, il_37]; omega) | (simp [zu]; done) | (simp [zu]; omega)) | exact k1 (by first | omega | (simp only [il_2, il_3, il_7, il_9, il_18, il_19, il_36, il_37]; omega) | (simp [zu]; done) | (simp [zu]; omega))⟩
                          · exfalso; omega
                      · skip
                        try (exfalso; omega)
                        all_goals
                          refine bX5_amount_36 (by first | omega | (simp only [il_2, il_3, il_7, il_9, il_18, il_19, il_36, il_37]; omega) | (simp [zu]; done) | (simp [zu]; omega)) (fun z36 => ?_) (fun z36 => ?_)
                          · exfalso; omega
                          · skip
                            try (exfalso; omega)
                            all_goals
                              exact bX5_amount_39  ⟨_, rfl, by first | exact k0 (by first | omega | (simp only [il_2, il_3, il_7, il_9, il_18, il_19, il_36, il_37]; omega) | (simp [zu]; done) | (simp [zu]; omega)) | exact k1 (by first | omega | (simp only [il_2, il_3, il_7, il_9, il_18, il_19, il_36, il_37]; omega) | (simp [zu]; done) | (simp [zu]; omega))⟩
              · skip
                try (exfalso; omega)
                all_goals
                  refine bX5_amount_22 (by first | omega | (simp only [il_2, il_3, il_7, il_9, il_18, il_19, il_36, il_37]; omega) | (simp [zu]; done) | (simp [zu]; omega)) (fun z22 => ?_) (fun z22 => ?_)
                  · skip
                    try (exfalso; omega)
                    all_goals
                      exact bX5_amount_39  ⟨_, rfl, by first | exact k0 (by first | omega | (simp only [il_2, il_3, il_7, il_9, il_18, il_19, il_36, il_37]; omega) | (simp [zu]; done) | (simp [zu]; omega)) | exact k1 (by first | omega | (simp only [il_2, il_3, il_7, il_9, il_18, il_19, il_36, il_37]; omega) | (simp [zu]; done) | (simp [zu]; omega))⟩
                  · exfalso; omega
  · skip
    try (exfalso; omega)
    all_goals
      refine bX5_amount_5 (by first | omega | (simp only [il_2, il_3, il_7, il_9, il_18, il_19, il_36, il_37]; omega) | (simp [zu]; done) | (simp [zu]; omega)) (fun z5 => ?_) (fun z5 => ?_)
      · skip
        try (exfalso; omega)
        all_goals
          exact bX5_amount_39  ⟨_, rfl, by first | exact k0 (by first | omega | (simp only [il_2, il_3, il_7, il_9, il_18, il_19, il_36, il_37]; omega) | (simp [zu]; done) | (simp [zu]; omega)) | exact k1 (by first | omega | (simp only [il_2, il_3, il_7, il_9, il_18, il_19, il_36, il_37]; omega) | (simp [zu]; done) | (simp [zu]; omega))⟩
      · exfalso; omega
theorem kX5_on {d : Nat} {Z Y : Nat → Nat → Int} {S : Nat × (Nat → Int32)} {K : Int → jj_Hp → Prop} {r v : Int} (hr : -2147483648 ≤ r ∧ r ≤ 2147483647) (hv : v = 0 ∨ v = 1) (hm : 0 ≤ Z 27 3 ∧ Z 27 3 ≤ 6) (hk : 0 ≤ r ∧ r < Z 27 3 → Z 34 r.toNat = 0 ∨ Z 34 r.toNat = 1) (k0 : ¬ (0 ≤ r ∧ r < Z 27 3) → K (-1000001) (jj_h Z Y S)) (k1 : (0 ≤ r ∧ r < Z 27 3) ∧ Z 34 r.toNat = 0 → K 0 (jj_h (zu Z 34 (r.toNat) v) Y S)) (k2 : (0 ≤ r ∧ r < Z 27 3) ∧ Z 34 r.toNat = 1 → K 1 (jj_h (zu Z 34 (r.toNat) v) Y S)) : jj_Ci (d + 2) mX5_on [.ref 27, iv r, iv v] (jj_h Z Y S) K := by
  refine nX5_on ?_
  refine bX5_on_0  ?_
  refine kX5_isRule (by first | omega | (simp only [il_2, il_3, il_7, il_9, il_18, il_19, il_36, il_37]; omega) | (simp [zu]; done) | (simp [zu]; omega)) (by first | omega | (simp only [il_2, il_3, il_7, il_9, il_18, il_19, il_36, il_37]; omega) | (simp [zu]; done) | (simp [zu]; omega)) (fun z0 => ?_) (fun z0 => ?_)
  · skip
    try (exfalso; omega)
    all_goals
      refine bX5_on_5 (by first | omega | (simp only [il_2, il_3, il_7, il_9, il_18, il_19, il_36, il_37]; omega) | (simp [zu]; done) | (simp [zu]; omega)) (fun z5 => ?_) (fun z5 => ?_)
      · skip
        try (exfalso; omega)
        all_goals
          refine bX5_on_11 (by first | omega | (simp only [il_2, il_3, il_7, il_9, il_18, il_19, il_36, il_37]; omega) | (simp [zu]; done) | (simp [zu]; omega)) (by first | omega | (simp only [il_2, il_3, il_7, il_9, il_18, il_19, il_36, il_37]; omega) | (simp [zu]; done) | (simp [zu]; omega)) (by first | omega | (simp only [il_2, il_3, il_7, il_9, il_18, il_19, il_36, il_37]; omega) | (simp [zu]; done) | (simp [zu]; omega)) (fun z11 => ?_) (fun z11 => ?_)
          · skip
            try (exfalso; omega)
            all_goals
              exact bX5_on_24 (by first | omega | (simp only [il_2, il_3, il_7, il_9, il_18, il_19, il_36, il_37]; omega) | (simp [zu]; done) | (simp [zu]; omega)) (by first | omega | (simp only [il_2, il_3, il_7, il_9, il_18, il_19, il_36, il_37]; omega) | (simp [zu]; done) | (simp [zu]; omega)) (by first | omega | (simp only [il_2, il_3, il_7, il_9, il_18, il_19, il_36, il_37]; omega) | (simp [zu]; done) | (simp [zu]; omega)) ⟨_, rfl, by first | exact k0 (by first | omega | (simp only [il_2, il_3, il_7, il_9, il_18, il_19, il_36, il_37]; omega) | (simp [zu]; done) | (simp [zu]; omega)) | exact k1 (by first | omega | (simp only [il_2, il_3, il_7, il_9, il_18, il_19, il_36, il_37]; omega) | (simp [zu]; done) | (simp [zu]; omega)) | exact k2 (by first | omega | (simp only [il_2, il_3, il_7, il_9, il_18, il_19, il_36, il_37]; omega) | (simp [zu]; done) | (simp [zu]; omega))⟩
          · skip
            try (exfalso; omega)
            all_goals
              exact bX5_on_20 (by first | omega | (simp only [il_2, il_3, il_7, il_9, il_18, il_19, il_36, il_37]; omega) | (simp [zu]; done) | (simp [zu]; omega)) (by first | omega | (simp only [il_2, il_3, il_7, il_9, il_18, il_19, il_36, il_37]; omega) | (simp [zu]; done) | (simp [zu]; omega)) (by first | omega | (simp only [il_2, il_3, il_7, il_9, il_18, il_19, il_36, il_37]; omega) | (simp [zu]; done) | (simp [zu]; omega)) ⟨_, rfl, by first | exact k0 (by first | omega | (simp only [il_2, il_3, il_7, il_9, il_18, il_19, il_36, il_37]; omega) | (simp [zu]; done) | (simp [zu]; omega)) | exact k1 (by first | omega | (simp only [il_2, il_3, il_7, il_9, il_18, il_19, il_36, il_37]; omega) | (simp [zu]; done) | (simp [zu]; omega)) | exact k2 (by first | omega | (simp only [il_2, il_3, il_7, il_9, il_18, il_19, il_36, il_37]; omega) | (simp [zu]; done) | (simp [zu]; omega))⟩
      · exfalso; omega
  · skip
    try (exfalso; omega)
    all_goals
      refine bX5_on_5 (by first | omega | (simp only [il_2, il_3, il_7, il_9, il_18, il_19, il_36, il_37]; omega) | (simp [zu]; done) | (simp [zu]; omega)) (fun z5 => ?_) (fun z5 => ?_)
      · exfalso; omega
      · skip
        try (exfalso; omega)
        all_goals
          exact bX5_on_8  ⟨_, rfl, by first | exact k0 (by first | omega | (simp only [il_2, il_3, il_7, il_9, il_18, il_19, il_36, il_37]; omega) | (simp [zu]; done) | (simp [zu]; omega)) | exact k1 (by first | omega | (simp only [il_2, il_3, il_7, il_9, il_18, il_19, il_36, il_37]; omega) | (simp [zu]; done) | (simp [zu]; omega)) | exact k2 (by first | omega | (simp only [il_2, il_3, il_7, il_9, il_18, il_19, il_36, il_37]; omega) | (simp [zu]; done) | (simp [zu]; omega))⟩
theorem kX5_set {d : Nat} {Z Y : Nat → Nat → Int} {S : Nat × (Nat → Int32)} {K : Int → jj_Hp → Prop} {w k v : Int} (hw : -2147483648 ≤ w ∧ w ≤ 2147483647) (hk : -2147483648 ≤ k ∧ k ≤ 2147483647) (hv : -2147483648 ≤ v ∧ v ≤ 2147483647) (hn : 0 ≤ Z 27 0 ∧ Z 27 0 ≤ 4) (hm : 0 ≤ Z 27 3 ∧ Z 27 3 ≤ 6) (hq : 0 ≤ k ∧ k < Z 27 3 → -2147483648 ≤ Z 30 k.toNat ∧ Z 30 k.toNat ≤ 2147483647) (k0 : ¬ (0 ≤ w ∧ w ≤ 2) ∨ (w = 0 ∧ ¬ ((0 ≤ k ∧ k < Z 27 3) ∧ (0 ≤ v ∧ ((Z 30 k.toNat = 0 ∧ v ≤ 999) ∨ (¬ Z 30 k.toNat = 0 ∧ v ≤ 9))))) ∨ (w = 1 ∧ ¬ ((0 ≤ k ∧ k < Z 27 0) ∧ (-99 ≤ v ∧ v ≤ 99))) ∨ (w = 2 ∧ ¬ ((0 ≤ k ∧ k < Z 27 0) ∧ (0 ≤ v ∧ v ≤ 9))) → K (-1000001) (jj_h Z Y S)) (k1 : w = 0 ∧ (0 ≤ k ∧ k < Z 27 3) ∧ (0 ≤ v ∧ ((Z 30 k.toNat = 0 ∧ v ≤ 999) ∨ (¬ Z 30 k.toNat = 0 ∧ v ≤ 9))) → K (Z 33 k.toNat) (jj_h (zu Z 33 (k.toNat) v) Y S)) (k2 : w = 1 ∧ (0 ≤ k ∧ k < Z 27 0) ∧ (-99 ≤ v ∧ v ≤ 99) → K (Z 28 k.toNat) (jj_h (zu Z 28 (k.toNat) v) Y S)) (k3 : w = 2 ∧ (0 ≤ k ∧ k < Z 27 0) ∧ (0 ≤ v ∧ v ≤ 9) → K (Z 29 k.toNat) (jj_h (zu Z 29 (k.toNat) v) Y S)) : jj_Ci (d + 2) mX5_set [.ref 27, iv w, iv k, iv v] (jj_h Z Y S) K := by
  refine nX5_set ?_
  refine bX5_set_0 (by first | omega | (simp only [il_2, il_3, il_7, il_9, il_18, il_19, il_36, il_37]; omega) | (simp [zu]; done) | (simp [zu]; omega)) (fun z0 => ?_) (fun z0 => ?_)
  · skip
    try (exfalso; omega)
    all_goals
      refine bX5_set_34  ?_
      refine kX5_isThing (by first | omega | (simp only [il_2, il_3, il_7, il_9, il_18, il_19, il_36, il_37]; omega) | (simp [zu]; done) | (simp [zu]; omega)) (by first | omega | (simp only [il_2, il_3, il_7, il_9, il_18, il_19, il_36, il_37]; omega) | (simp [zu]; done) | (simp [zu]; omega)) (fun z34 => ?_) (fun z34 => ?_)
      · skip
        try (exfalso; omega)
        all_goals
          refine bX5_set_39 (by first | omega | (simp only [il_2, il_3, il_7, il_9, il_18, il_19, il_36, il_37]; omega) | (simp [zu]; done) | (simp [zu]; omega)) (fun z39 => ?_) (fun z39 => ?_)
          · exfalso; omega
          · skip
            try (exfalso; omega)
            all_goals
              refine bX5_set_42 (by first | omega | (simp only [il_2, il_3, il_7, il_9, il_18, il_19, il_36, il_37]; omega) | (simp [zu]; done) | (simp [zu]; omega)) (fun z42 => ?_) (fun z42 => ?_)
              · skip
                try (exfalso; omega)
                all_goals
                  refine bX5_set_64 (by first | omega | (simp only [il_2, il_3, il_7, il_9, il_18, il_19, il_36, il_37]; omega) | (simp [zu]; done) | (simp [zu]; omega)) (fun z64 => ?_) (fun z64 => ?_)
                  · skip
                    try (exfalso; omega)
                    all_goals
                      exact bX5_set_85  ⟨_, rfl, by first | exact k0 (by first | omega | (simp only [il_2, il_3, il_7, il_9, il_18, il_19, il_36, il_37]; omega) | (simp [zu]; done) | (simp [zu]; omega)) | exact k1 (by first | omega | (simp only [il_2, il_3, il_7, il_9, il_18, il_19, il_36, il_37]; omega) | (simp [zu]; done) | (simp [zu]; omega)) | exact k2 (by first | omega | (simp only [il_2, il_3, il_7, il_9, il_18, il_19, il_36, il_37]; omega) | (simp [zu]; done) | (simp [zu]; omega)) | exact k3 (by first | omega | (simp only [il_2, il_3, il_7, il_9, il_18, il_19, il_36, il_37]; omega) | (simp [zu]; done) | (simp [zu]; omega))⟩
                  · skip
                    try (exfalso; omega)
                    all_goals
                      refine bX5_set_69 (by first | omega | (simp only [il_2, il_3, il_7, il_9, il_18, il_19, il_36, il_37]; omega) | (simp [zu]; done) | (simp [zu]; omega)) ?_
                      refine kX5_in (by first | omega | (simp only [il_2, il_3, il_7, il_9, il_18, il_19, il_36, il_37]; omega) | (simp [zu]; done) | (simp [zu]; omega)) (by first | omega | (simp only [il_2, il_3, il_7, il_9, il_18, il_19, il_36, il_37]; omega) | (simp [zu]; done) | (simp [zu]; omega)) (by first | omega | (simp only [il_2, il_3, il_7, il_9, il_18, il_19, il_36, il_37]; omega) | (simp [zu]; done) | (simp [zu]; omega)) (fun z69 => ?_) (fun z69 => ?_)
                      · skip
                        try (exfalso; omega)
                        all_goals
                          refine bX5_set_78 (by first | omega | (simp only [il_2, il_3, il_7, il_9, il_18, il_19, il_36, il_37]; omega) | (simp [zu]; done) | (simp [zu]; omega)) (fun z78 => ?_) (fun z78 => ?_)
                          · exfalso; omega
                          · skip
                            try (exfalso; omega)
                            all_goals
                              refine bX5_set_81 (by first | omega | (simp only [il_2, il_3, il_7, il_9, il_18, il_19, il_36, il_37]; omega) | (simp [zu]; done) | (simp [zu]; omega)) (fun z81 => ?_) (fun z81 => ?_)
                              · skip
                                try (exfalso; omega)
                                all_goals
                                  refine bX5_set_109 (by first | omega | (simp only [il_2, il_3, il_7, il_9, il_18, il_19, il_36, il_37]; omega) | (simp [zu]; done) | (simp [zu]; omega)) (fun z109 => ?_) (fun z109 => ?_)
                                  · skip
                                    try (exfalso; omega)
                                    all_goals
                                      refine bX5_set_123 (by first | omega | (simp only [il_2, il_3, il_7, il_9, il_18, il_19, il_36, il_37]; omega) | (simp [zu]; done) | (simp [zu]; omega)) (by first | omega | (simp only [il_2, il_3, il_7, il_9, il_18, il_19, il_36, il_37]; omega) | (simp [zu]; done) | (simp [zu]; omega)) (by first | omega | (simp only [il_2, il_3, il_7, il_9, il_18, il_19, il_36, il_37]; omega) | (simp [zu]; done) | (simp [zu]; omega)) (fun z123 => ?_) (fun z123 => ?_)
                                      · skip
                                        try (exfalso; omega)
                                        all_goals
                                          refine bX5_set_145 (by first | omega | (simp only [il_2, il_3, il_7, il_9, il_18, il_19, il_36, il_37]; omega) | (simp [zu]; done) | (simp [zu]; omega)) (fun z145 => ?_) (fun z145 => ?_)
                                          · skip
                                            try (exfalso; omega)
                                            all_goals
                                              exact bX5_set_160 (by first | omega | (simp only [il_2, il_3, il_7, il_9, il_18, il_19, il_36, il_37]; omega) | (simp [zu]; done) | (simp [zu]; omega)) (by first | omega | (simp only [il_2, il_3, il_7, il_9, il_18, il_19, il_36, il_37]; omega) | (simp [zu]; done) | (simp [zu]; omega)) ⟨_, rfl, by first | exact k0 (by first | omega | (simp only [il_2, il_3, il_7, il_9, il_18, il_19, il_36, il_37]; omega) | (simp [zu]; done) | (simp [zu]; omega)) | exact k1 (by first | omega | (simp only [il_2, il_3, il_7, il_9, il_18, il_19, il_36, il_37]; omega) | (simp [zu]; done) | (simp [zu]; omega)) | exact k2 (by first | omega | (simp only [il_2, il_3, il_7, il_9, il_18, il_19, il_36, il_37]; omega) | (simp [zu]; done) | (simp [zu]; omega)) | exact k3 (by first | omega | (simp only [il_2, il_3, il_7, il_9, il_18, il_19, il_36, il_37]; omega) | (simp [zu]; done) | (simp [zu]; omega))⟩
                                          · skip
                                            try (exfalso; omega)
                                            all_goals
                                              exact bX5_set_150 (by first | omega | (simp only [il_2, il_3, il_7, il_9, il_18, il_19, il_36, il_37]; omega) | (simp [zu]; done) | (simp [zu]; omega)) (by first | omega | (simp only [il_2, il_3, il_7, il_9, il_18, il_19, il_36, il_37]; omega) | (simp [zu]; done) | (simp [zu]; omega)) ⟨_, rfl, by first | exact k0 (by first | omega | (simp only [il_2, il_3, il_7, il_9, il_18, il_19, il_36, il_37]; omega) | (simp [zu]; done) | (simp [zu]; omega)) | exact k1 (by first | omega | (simp only [il_2, il_3, il_7, il_9, il_18, il_19, il_36, il_37]; omega) | (simp [zu]; done) | (simp [zu]; omega)) | exact k2 (by first | omega | (simp only [il_2, il_3, il_7, il_9, il_18, il_19, il_36, il_37]; omega) | (simp [zu]; done) | (simp [zu]; omega)) | exact k3 (by first | omega | (simp only [il_2, il_3, il_7, il_9, il_18, il_19, il_36, il_37]; omega) | (simp [zu]; done) | (simp [zu]; omega))⟩
                                      · skip
                                        try (exfalso; omega)
                                        all_goals
                                          exact bX5_set_135 (by first | omega | (simp only [il_2, il_3, il_7, il_9, il_18, il_19, il_36, il_37]; omega) | (simp [zu]; done) | (simp [zu]; omega)) (by first | omega | (simp only [il_2, il_3, il_7, il_9, il_18, il_19, il_36, il_37]; omega) | (simp [zu]; done) | (simp [zu]; omega)) ⟨_, rfl, by first | exact k0 (by first | omega | (simp only [il_2, il_3, il_7, il_9, il_18, il_19, il_36, il_37]; omega) | (simp [zu]; done) | (simp [zu]; omega)) | exact k1 (by first | omega | (simp only [il_2, il_3, il_7, il_9, il_18, il_19, il_36, il_37]; omega) | (simp [zu]; done) | (simp [zu]; omega)) | exact k2 (by first | omega | (simp only [il_2, il_3, il_7, il_9, il_18, il_19, il_36, il_37]; omega) | (simp [zu]; done) | (simp [zu]; omega)) | exact k3 (by first | omega | (simp only [il_2, il_3, il_7, il_9, il_18, il_19, il_36, il_37]; omega) | (simp [zu]; done) | (simp [zu]; omega))⟩
                                  · skip
                                    try (exfalso; omega)
                                    all_goals
                                      refine bX5_set_114 (by first | omega | (simp only [il_2, il_3, il_7, il_9, il_18, il_19, il_36, il_37]; omega) | (simp [zu]; done) | (simp [zu]; omega)) (by first | omega | (simp only [il_2, il_3, il_7, il_9, il_18, il_19, il_36, il_37]; omega) | (simp [zu]; done) | (simp [zu]; omega)) (by first | omega | (simp only [il_2, il_3, il_7, il_9, il_18, il_19, il_36, il_37]; omega) | (simp [zu]; done) | (simp [zu]; omega)) (fun z114 => ?_) (fun z114 => ?_)
                                      · skip
                                        try (exfalso; omega)
                                        all_goals
                                          refine bX5_set_145 (by first | omega | (simp only [il_2, il_3, il_7, il_9, il_18, il_19, il_36, il_37]; omega) | (simp [zu]; done) | (simp [zu]; omega)) (fun z145 => ?_) (fun z145 => ?_)
                                          · skip
                                            try (exfalso; omega)
                                            all_goals
                                              exact bX5_set_160 (by first | omega | (simp only [il_2, il_3, il_7, il_9, il_18, il_19, il_36, il_37]; omega) | (simp [zu]; done) | (simp [zu]; omega)) (by first | omega | (simp only [il_2, il_3, il_7, il_9, il_18, il_19, il_36, il_37]; omega) | (simp [zu]; done) | (simp [zu]; omega)) ⟨_, rfl, by first | exact k0 (by first | omega | (simp only [il_2, il_3, il_7, il_9, il_18, il_19, il_36, il_37]; omega) | (simp [zu]; done) | (simp [zu]; omega)) | exact k1 (by first | omega | (simp only [il_2, il_3, il_7, il_9, il_18, il_19, il_36, il_37]; omega) | (simp [zu]; done) | (simp [zu]; omega)) | exact k2 (by first | omega | (simp only [il_2, il_3, il_7, il_9, il_18, il_19, il_36, il_37]; omega) | (simp [zu]; done) | (simp [zu]; omega)) | exact k3 (by first | omega | (simp only [il_2, il_3, il_7, il_9, il_18, il_19, il_36, il_37]; omega) | (simp [zu]; done) | (simp [zu]; omega))⟩
                                          · skip
                                            try (exfalso; omega)
                                            all_goals
                                              exact bX5_set_150 (by first | omega | (simp only [il_2, il_3, il_7, il_9, il_18, il_19, il_36, il_37]; omega) | (simp [zu]; done) | (simp [zu]; omega)) (by first | omega | (simp only [il_2, il_3, il_7, il_9, il_18, il_19, il_36, il_37]; omega) | (simp [zu]; done) | (simp [zu]; omega)) ⟨_, rfl, by first | exact k0 (by first | omega | (simp only [il_2, il_3, il_7, il_9, il_18, il_19, il_36, il_37]; omega) | (simp [zu]; done) | (simp [zu]; omega)) | exact k1 (by first | omega | (simp only [il_2, il_3, il_7, il_9, il_18, il_19, il_36, il_37]; omega) | (simp [zu]; done) | (simp [zu]; omega)) | exact k2 (by first | omega | (simp only [il_2, il_3, il_7, il_9, il_18, il_19, il_36, il_37]; omega) | (simp [zu]; done) | (simp [zu]; omega)) | exact k3 (by first | omega | (simp only [il_2, il_3, il_7, il_9, il_18, il_19, il_36, il_37]; omega) | (simp [zu]; done) | (simp [zu]; omega))⟩
                                      · skip
                                        try (exfalso; omega)
                                        all_goals
                                          exact bX5_set_135 (by first | omega | (simp only [il_2, il_3, il_7, il_9, il_18, il_19, il_36, il_37]; omega) | (simp [zu]; done) | (simp [zu]; omega)) (by first | omega | (simp only [il_2, il_3, il_7, il_9, il_18, il_19, il_36, il_37]; omega) | (simp [zu]; done) | (simp [zu]; omega)) ⟨_, rfl, by first | exact k0 (by first | omega | (simp only [il_2, il_3, il_7, il_9, il_18, il_19, il_36, il_37]; omega) | (simp [zu]; done) | (simp [zu]; omega)) | exact k1 (by first | omega | (simp only [il_2, il_3, il_7, il_9, il_18, il_19, il_36, il_37]; omega) | (simp [zu]; done) | (simp [zu]; omega)) | exact k2 (by first | omega | (simp only [il_2, il_3, il_7, il_9, il_18, il_19, il_36, il_37]; omega) | (simp [zu]; done) | (simp [zu]; omega)) | exact k3 (by first | omega | (simp only [il_2, il_3, il_7, il_9, il_18, il_19, il_36, il_37]; omega) | (simp [zu]; done) | (simp [zu]; omega))⟩
                              · skip
                                try (exfalso; omega)
                                all_goals
                                  refine bX5_set_100 (by first | omega | (simp only [il_2, il_3, il_7, il_9, il_18, il_19, il_36, il_37]; omega) | (simp [zu]; done) | (simp [zu]; omega)) (by first | omega | (simp only [il_2, il_3, il_7, il_9, il_18, il_19, il_36, il_37]; omega) | (simp [zu]; done) | (simp [zu]; omega)) (by first | omega | (simp only [il_2, il_3, il_7, il_9, il_18, il_19, il_36, il_37]; omega) | (simp [zu]; done) | (simp [zu]; omega)) (fun z100 => ?_) (fun z100 => ?_)
                                  · skip
                                    try (exfalso; omega)
                                    all_goals
                                      refine bX5_set_145 (by first | omega | (simp only [il_2, il_3, il_7, il_9, il_18, il_19, il_36, il_37]; omega) | (simp [zu]; done) | (simp [zu]; omega)) (fun z145 => ?_) (fun z145 => ?_)
                                      · skip
                                        try (exfalso; omega)
                                        all_goals
                                          exact bX5_set_160 (by first | omega | (simp only [il_2, il_3, il_7, il_9, il_18, il_19, il_36, il_37]; omega) | (simp [zu]; done) | (simp [zu]; omega)) (by first | omega | (simp only [il_2, il_3, il_7, il_9, il_18, il_19, il_36, il_37]; omega) | (simp [zu]; done) | (simp [zu]; omega)) ⟨_, rfl, by first | exact k0 (by first | omega | (simp only [il_2, il_3, il_7, il_9, il_18, il_19, il_36, il_37]; omega) | (simp [zu]; done) | (simp [zu]; omega)) | exact k1 (by first | omega | (simp only [il_2, il_3, il_7, il_9, il_18, il_19, il_36, il_37]; omega) | (simp [zu]; done) | (simp [zu]; omega)) | exact k2 (by first | omega | (simp only [il_2, il_3, il_7, il_9, il_18, il_19, il_36, il_37]; omega) | (simp [zu]; done) | (simp [zu]; omega)) | exact k3 (by first | omega | (simp only [il_2, il_3, il_7, il_9, il_18, il_19, il_36, il_37]; omega) | (simp [zu]; done) | (simp [zu]; omega))⟩
                                      · skip
                                        try (exfalso; omega)
                                        all_goals
                                          exact bX5_set_150 (by first | omega | (simp only [il_2, il_3, il_7, il_9, il_18, il_19, il_36, il_37]; omega) | (simp [zu]; done) | (simp [zu]; omega)) (by first | omega | (simp only [il_2, il_3, il_7, il_9, il_18, il_19, il_36, il_37]; omega) | (simp [zu]; done) | (simp [zu]; omega)) ⟨_, rfl, by first | exact k0 (by first | omega | (simp only [il_2, il_3, il_7, il_9, il_18, il_19, il_36, il_37]; omega) | (simp [zu]; done) | (simp [zu]; omega)) | exact k1 (by first | omega | (simp only [il_2, il_3, il_7, il_9, il_18, il_19, il_36, il_37]; omega) | (simp [zu]; done) | (simp [zu]; omega)) | exact k2 (by first | omega | (simp only [il_2, il_3, il_7, il_9, il_18, il_19, il_36, il_37]; omega) | (simp [zu]; done) | (simp [zu]; omega)) | exact k3 (by first | omega | (simp only [il_2, il_3, il_7, il_9, il_18, il_19, il_36, il_37]; omega) | (simp [zu]; done) | (simp [zu]; omega))⟩
                                  · skip
                                    try (exfalso; omega)
                                    all_goals
                                      exact bX5_set_135 (by first | omega | (simp only [il_2, il_3, il_7, il_9, il_18, il_19, il_36, il_37]; omega) | (simp [zu]; done) | (simp [zu]; omega)) (by first | omega | (simp only [il_2, il_3, il_7, il_9, il_18, il_19, il_36, il_37]; omega) | (simp [zu]; done) | (simp [zu]; omega)) ⟨_, rfl, by first | exact k0 (by first | omega | (simp only [il_2, il_3, il_7, il_9, il_18, il_19, il_36, il_37]; omega) | (simp [zu]; done) | (simp [zu]; omega)) | exact k1 (by first | omega | (simp only [il_2, il_3, il_7, il_9, il_18, il_19, il_36, il_37]; omega) | (simp [zu]; done) | (simp [zu]; omega)) | exact k2 (by first | omega | (simp only [il_2, il_3, il_7, il_9, il_18, il_19, il_36, il_37]; omega) | (simp [zu]; done) | (simp [zu]; omega)) | exact k3 (by first | omega | (simp only [il_2, il_3, il_7, il_9, il_18, il_19, il_36, il_37]; omega) | (simp [zu]; done) | (simp [zu]; omega))⟩
                      · skip
                        try (exfalso; omega)
                        all_goals
                          refine bX5_set_78 (by first | omega | (simp only [il_2, il_3, il_7, il_9, il_18, il_19, il_36, il_37]; omega) | (simp [zu]; done) | (simp [zu]; omega)) (fun z78 => ?_) (fun z78 => ?_)
                          · skip
                            try (exfalso; omega)
                            all_goals
                              exact bX5_set_85  ⟨_, rfl, by first | exact k0 (by first | omega | (simp only [il_2, il_3, il_7, il_9, il_18, il_19, il_36, il_37]; omega) | (simp [zu]; done) | (simp [zu]; omega)) | exact k1 (by first | omega | (simp only [il_2, il_3, il_7, il_9, il_18, il_19, il_36, il_37]; omega) | (simp [zu]; done) | (simp [zu]; omega)) | exact k2 (by first | omega | (simp only [il_2, il_3, il_7, il_9, il_18, il_19, il_36, il_37]; omega) | (simp [zu]; done) | (simp [zu]; omega)) | exact k3 (by first | omega | (simp only [il_2, il_3, il_7, il_9, il_18, il_19, il_36, il_37]; omega) | (simp [zu]; done) | (simp [zu]; omega))⟩
                          · exfalso; omega
              · skip
                try (exfalso; omega)
                all_goals
                  refine bX5_set_47 (by first | omega | (simp only [il_2, il_3, il_7, il_9, il_18, il_19, il_36, il_37]; omega) | (simp [zu]; done) | (simp [zu]; omega)) ?_
                  refine kX5_in (by first | omega | (simp only [il_2, il_3, il_7, il_9, il_18, il_19, il_36, il_37]; omega) | (simp [zu]; done) | (simp [zu]; omega)) (by first | omega | (simp only [il_2, il_3, il_7, il_9, il_18, il_19, il_36, il_37]; omega) | (simp [zu]; done) | (simp [zu]; omega)) (by first | omega | (simp only [il_2, il_3, il_7, il_9, il_18, il_19, il_36, il_37]; omega) | (simp [zu]; done) | (simp [zu]; omega)) (fun z47 => ?_) (fun z47 => ?_)
                  · skip
                    try (exfalso; omega)
                    all_goals
                      refine bX5_set_58 (by first | omega | (simp only [il_2, il_3, il_7, il_9, il_18, il_19, il_36, il_37]; omega) | (simp [zu]; done) | (simp [zu]; omega)) (fun z58 => ?_) (fun z58 => ?_)
                      · exfalso; omega
                      · skip
                        try (exfalso; omega)
                        all_goals
                          refine bX5_set_61 (by first | omega | (simp only [il_2, il_3, il_7, il_9, il_18, il_19, il_36, il_37]; omega) | (simp [zu]; done) | (simp [zu]; omega)) (fun z61 => ?_) (fun z61 => ?_)
                          · skip
                            try (exfalso; omega)
                            all_goals
                              refine bX5_set_109 (by first | omega | (simp only [il_2, il_3, il_7, il_9, il_18, il_19, il_36, il_37]; omega) | (simp [zu]; done) | (simp [zu]; omega)) (fun z109 => ?_) (fun z109 => ?_)
                              · skip
                                try (exfalso; omega)
                                all_goals
                                  refine bX5_set_123 (by first | omega | (simp only [il_2, il_3, il_7, il_9, il_18, il_19, il_36, il_37]; omega) | (simp [zu]; done) | (simp [zu]; omega)) (by first | omega | (simp only [il_2, il_3, il_7, il_9, il_18, il_19, il_36, il_37]; omega) | (simp [zu]; done) | (simp [zu]; omega)) (by first | omega | (simp only [il_2, il_3, il_7, il_9, il_18, il_19, il_36, il_37]; omega) | (simp [zu]; done) | (simp [zu]; omega)) (fun z123 => ?_) (fun z123 => ?_)
                                  · skip
                                    try (exfalso; omega)
                                    all_goals
                                      refine bX5_set_145 (by first | omega | (simp only [il_2, il_3, il_7, il_9, il_18, il_19, il_36, il_37]; omega) | (simp [zu]; done) | (simp [zu]; omega)) (fun z145 => ?_) (fun z145 => ?_)
                                      · skip
                                        try (exfalso; omega)
                                        all_goals
                                          exact bX5_set_160 (by first | omega | (simp only [il_2, il_3, il_7, il_9, il_18, il_19, il_36, il_37]; omega) | (simp [zu]; done) | (simp [zu]; omega)) (by first | omega | (simp only [il_2, il_3, il_7, il_9, il_18, il_19, il_36, il_37]; omega) | (simp [zu]; done) | (simp [zu]; omega)) ⟨_, rfl, by first | exact k0 (by first | omega | (simp only [il_2, il_3, il_7, il_9, il_18, il_19, il_36, il_37]; omega) | (simp [zu]; done) | (simp [zu]; omega)) | exact k1 (by first | omega | (simp only [il_2, il_3, il_7, il_9, il_18, il_19, il_36, il_37]; omega) | (simp [zu]; done) | (simp [zu]; omega)) | exact k2 (by first | omega | (simp only [il_2, il_3, il_7, il_9, il_18, il_19, il_36, il_37]; omega) | (simp [zu]; done) | (simp [zu]; omega)) | exact k3 (by first | omega | (simp only [il_2, il_3, il_7, il_9, il_18, il_19, il_36, il_37]; omega) | (simp [zu]; done) | (simp [zu]; omega))⟩
                                      · skip
                                        try (exfalso; omega)
                                        all_goals
                                          exact bX5_set_150 (by first | omega | (simp only [il_2, il_3, il_7, il_9, il_18, il_19, il_36, il_37]; omega) | (simp [zu]; done) | (simp [zu]; omega)) (by first | omega | (simp only [il_2, il_3, il_7, il_9, il_18, il_19, il_36, il_37]; omega) | (simp [zu]; done) | (simp [zu]; omega)) ⟨_, rfl, by first | exact k0 (by first | omega | (simp only [il_2, il_3, il_7, il_9, il_18, il_19, il_36, il_37]; omega) | (simp [zu]; done) | (simp [zu]; omega)) | exact k1 (by first | omega | (simp only [il_2, il_3, il_7, il_9, il_18, il_19, il_36, il_37]; omega) | (simp [zu]; done) | (simp [zu]; omega)) | exact k2 (by first | omega | (simp only [il_2, il_3, il_7, il_9, il_18, il_19, il_36, il_37]; omega) | (simp [zu]; done) | (simp [zu]; omega)) | exact k3 (by first | omega | (simp only [il_2, il_3, il_7, il_9, il_18, il_19, il_36, il_37]; omega) | (simp [zu]; done) | (simp [zu]; omega))⟩
                                  · skip
                                    try (exfalso; omega)
                                    all_goals
                                      exact bX5_set_135 (by first | omega | (simp only [il_2, il_3, il_7, il_9, il_18, il_19, il_36, il_37]; omega) | (simp [zu]; done) | (simp [zu]; omega)) (by first | omega | (simp only [il_2, il_3, il_7, il_9, il_18, il_19, il_36, il_37]; omega) | (simp [zu]; done) | (simp [zu]; omega)) ⟨_, rfl, by first | exact k0 (by first | omega | (simp only [il_2, il_3, il_7, il_9, il_18, il_19, il_36, il_37]; omega) | (simp [zu]; done) | (simp [zu]; omega)) | exact k1 (by first | omega | (simp only [il_2, il_3, il_7, il_9, il_18, il_19, il_36, il_37]; omega) | (simp [zu]; done) | (simp [zu]; omega)) | exact k2 (by first | omega | (simp only [il_2, il_3, il_7, il_9, il_18, il_19, il_36, il_37]; omega) | (simp [zu]; done) | (simp [zu]; omega)) | exact k3 (by first | omega | (simp only [il_2, il_3, il_7, il_9, il_18, il_19, il_36, il_37]; omega) | (simp [zu]; done) | (simp [zu]; omega))⟩
                              · skip
                                try (exfalso; omega)
                                all_goals
                                  refine bX5_set_114 (by first | omega | (simp only [il_2, il_3, il_7, il_9, il_18, il_19, il_36, il_37]; omega) | (simp [zu]; done) | (simp [zu]; omega)) (by first | omega | (simp only [il_2, il_3, il_7, il_9, il_18, il_19, il_36, il_37]; omega) | (simp [zu]; done) | (simp [zu]; omega)) (by first | omega | (simp only [il_2, il_3, il_7, il_9, il_18, il_19, il_36, il_37]; omega) | (simp [zu]; done) | (simp [zu]; omega)) (fun z114 => ?_) (fun z114 => ?_)
                                  · skip
                                    try (exfalso; omega)
                                    all_goals
                                      refine bX5_set_145 (by first | omega | (simp only [il_2, il_3, il_7, il_9, il_18, il_19, il_36, il_37]; omega) | (simp [zu]; done) | (simp [zu]; omega)) (fun z145 => ?_) (fun z145 => ?_)
                                      · skip
                                        try (exfalso; omega)
                                        all_goals
                                          exact bX5_set_160 (by first | omega | (simp only [il_2, il_3, il_7, il_9, il_18, il_19, il_36, il_37]; omega) | (simp [zu]; done) | (simp [zu]; omega)) (by first | omega | (simp only [il_2, il_3, il_7, il_9, il_18, il_19, il_36, il_37]; omega) | (simp [zu]; done) | (simp [zu]; omega)) ⟨_, rfl, by first | exact k0 (by first | omega | (simp only [il_2, il_3, il_7, il_9, il_18, il_19, il_36, il_37]; omega) | (simp [zu]; done) | (simp [zu]; omega)) | exact k1 (by first | omega | (simp only [il_2, il_3, il_7, il_9, il_18, il_19, il_36, il_37]; omega) | (simp [zu]; done) | (simp [zu]; omega)) | exact k2 (by first | omega | (simp only [il_2, il_3, il_7, il_9, il_18, il_19, il_36, il_37]; omega) | (simp [zu]; done) | (simp [zu]; omega)) | exact k3 (by first | omega | (simp only [il_2, il_3, il_7, il_9, il_18, il_19, il_36, il_37]; omega) | (simp [zu]; done) | (simp [zu]; omega))⟩
                                      · skip
                                        try (exfalso; omega)
                                        all_goals
                                          exact bX5_set_150 (by first | omega | (simp only [il_2, il_3, il_7, il_9, il_18, il_19, il_36, il_37]; omega) | (simp [zu]; done) | (simp [zu]; omega)) (by first | omega | (simp only [il_2, il_3, il_7, il_9, il_18, il_19, il_36, il_37]; omega) | (simp [zu]; done) | (simp [zu]; omega)) ⟨_, rfl, by first | exact k0 (by first | omega | (simp only [il_2, il_3, il_7, il_9, il_18, il_19, il_36, il_37]; omega) | (simp [zu]; done) | (simp [zu]; omega)) | exact k1 (by first | omega | (simp only [il_2, il_3, il_7, il_9, il_18, il_19, il_36, il_37]; omega) | (simp [zu]; done) | (simp [zu]; omega)) | exact k2 (by first | omega | (simp only [il_2, il_3, il_7, il_9, il_18, il_19, il_36, il_37]; omega) | (simp [zu]; done) | (simp [zu]; omega)) | exact k3 (by first | omega | (simp only [il_2, il_3, il_7, il_9, il_18, il_19, il_36, il_37]; omega) | (simp [zu]; done) | (simp [zu]; omega))⟩
                                  · skip
                                    try (exfalso; omega)
                                    all_goals
                                      exact bX5_set_135 (by first | omega | (simp only [il_2, il_3, il_7, il_9, il_18, il_19, il_36, il_37]; omega) | (simp [zu]; done) | (simp [zu]; omega)) (by first | omega | (simp only [il_2, il_3, il_7, il_9, il_18, il_19, il_36, il_37]; omega) | (simp [zu]; done) | (simp [zu]; omega)) ⟨_, rfl, by first | exact k0 (by first | omega | (simp only [il_2, il_3, il_7, il_9, il_18, il_19, il_36, il_37]; omega) | (simp [zu]; done) | (simp [zu]; omega)) | exact k1 (by first | omega | (simp only [il_2, il_3, il_7, il_9, il_18, il_19, il_36, il_37]; omega) | (simp [zu]; done) | (simp [zu]; omega)) | exact k2 (by first | omega | (simp only [il_2, il_3, il_7, il_9, il_18, il_19, il_36, il_37]; omega) | (simp [zu]; done) | (simp [zu]; omega)) | exact k3 (by first | omega | (simp only [il_2, il_3, il_7, il_9, il_18, il_19, il_36, il_37]; omega) | (simp [zu]; done) | (simp [zu]; omega))⟩
                          · skip
                            try (exfalso; omega)
                            all_goals
                              refine bX5_set_100 (by first | omega | (simp only [il_2, il_3, il_7, il_9, il_18, il_19, il_36, il_37]; omega) | (simp [zu]; done) | (simp [zu]; omega)) (by first | omega | (simp only [il_2, il_3, il_7, il_9, il_18, il_19, il_36, il_37]; omega) | (simp [zu]; done) | (simp [zu]; omega)) (by first | omega | (simp only [il_2, il_3, il_7, il_9, il_18, il_19, il_36, il_37]; omega) | (simp [zu]; done) | (simp [zu]; omega)) (fun z100 => ?_) (fun z100 => ?_)
                              · skip
                                try (exfalso; omega)
                                all_goals
                                  refine bX5_set_145 (by first | omega | (simp only [il_2, il_3, il_7, il_9, il_18, il_19, il_36, il_37]; omega) | (simp [zu]; done) | (simp [zu]; omega)) (fun z145 => ?_) (fun z145 => ?_)
                                  · skip
                                    try (exfalso; omega)
                                    all_goals
                                      exact bX5_set_160 (by first | omega | (simp only [il_2, il_3, il_7, il_9, il_18, il_19, il_36, il_37]; omega) | (simp [zu]; done) | (simp [zu]; omega)) (by first | omega | (simp only [il_2, il_3, il_7, il_9, il_18, il_19, il_36, il_37]; omega) | (simp [zu]; done) | (simp [zu]; omega)) ⟨_, rfl, by first | exact k0 (by first | omega | (simp only [il_2, il_3, il_7, il_9, il_18, il_19, il_36, il_37]; omega) | (simp [zu]; done) | (simp [zu]; omega)) | exact k1 (by first | omega | (simp only [il_2, il_3, il_7, il_9, il_18, il_19, il_36, il_37]; omega) | (simp [zu]; done) | (simp [zu]; omega)) | exact k2 (by first | omega | (simp only [il_2, il_3, il_7, il_9, il_18, il_19, il_36, il_37]; omega) | (simp [zu]; done) | (simp [zu]; omega)) | exact k3 (by first | omega | (simp only [il_2, il_3, il_7, il_9, il_18, il_19, il_36, il_37]; omega) | (simp [zu]; done) | (simp [zu]; omega))⟩
                                  · skip
                                    try (exfalso; omega)
                                    all_goals
                                      exact bX5_set_150 (by first | omega | (simp only [il_2, il_3, il_7, il_9, il_18, il_19, il_36, il_37]; omega) | (simp [zu]; done) | (simp [zu]; omega)) (by first | omega | (simp only [il_2, il_3, il_7, il_9, il_18, il_19, il_36, il_37]; omega) | (simp [zu]; done) | (simp [zu]; omega)) ⟨_, rfl, by first | exact k0 (by first | omega | (simp only [il_2, il_3, il_7, il_9, il_18, il_19, il_36, il_37]; omega) | (simp [zu]; done) | (simp [zu]; omega)) | exact k1 (by first | omega | (simp only [il_2, il_3, il_7, il_9, il_18, il_19, il_36, il_37]; omega) | (simp [zu]; done) | (simp [zu]; omega)) | exact k2 (by first | omega | (simp only [il_2, il_3, il_7, il_9, il_18, il_19, il_36, il_37]; omega) | (simp [zu]; done) | (simp [zu]; omega)) | exact k3 (by first | omega | (simp only [il_2, il_3, il_7, il_9, il_18, il_19, il_36, il_37]; omega) | (simp [zu]; done) | (simp [zu]; omega))⟩
                              · skip
                                try (exfalso; omega)
                                all_goals
                                  exact bX5_set_135 (by first | omega | (simp only [il_2, il_3, il_7, il_9, il_18, il_19, il_36, il_37]; omega) | (simp [zu]; done) | (simp [zu]; omega)) (by first | omega | (simp only [il_2, il_3, il_7, il_9, il_18, il_19, il_36, il_37]; omega) | (simp [zu]; done) | (simp [zu]; omega)) ⟨_, rfl, by first | exact k0 (by first | omega | (simp only [il_2, il_3, il_7, il_9, il_18, il_19, il_36, il_37]; omega) | (simp [zu]; done) | (simp [zu]; omega)) | exact k1 (by first | omega | (simp only [il_2, il_3, il_7, il_9, il_18, il_19, il_36, il_37]; omega) | (simp [zu]; done) | (simp [zu]; omega)) | exact k2 (by first | omega | (simp only [il_2, il_3, il_7, il_9, il_18, il_19, il_36, il_37]; omega) | (simp [zu]; done) | (simp [zu]; omega)) | exact k3 (by first | omega | (simp only [il_2, il_3, il_7, il_9, il_18, il_19, il_36, il_37]; omega) | (simp [zu]; done) | (simp [zu]; omega))⟩
                  · skip
                    try (exfalso; omega)
                    all_goals
                      refine bX5_set_58 (by first | omega | (simp only [il_2, il_3, il_7, il_9, il_18, il_19, il_36, il_37]; omega) | (simp [zu]; done) | (simp [zu]; omega)) (fun z58 => ?_) (fun z58 => ?_)
                      · skip
                        try (exfalso; omega)
                        all_goals
                          exact bX5_set_85  ⟨_, rfl, by first | exact k0 (by first | omega | (simp only [il_2, il_3, il_7, il_9, il_18, il_19, il_36, il_37]; omega) | (simp [zu]; done) | (simp [zu]; omega)) | exact k1 (by first | omega | (simp only [il_2, il_3, il_7, il_9, il_18, il_19, il_36, il_37]; omega) | (simp [zu]; done) | (simp [zu]; omega)) | exact k2 (by first | omega | (simp only [il_2, il_3, il_7, il_9, il_18, il_19, il_36, il_37]; omega) | (simp [zu]; done) | (simp [zu]; omega)) | exact k3 (by first | omega | (simp only [il_2, il_3, il_7, il_9, il_18, il_19, il_36, il_37]; omega) | (simp [zu]; done) | (simp [zu]; omega))⟩
                      · exfalso; omega
      · skip
        try (exfalso; omega)
        all_goals
          refine bX5_set_39 (by first | omega | (simp only [il_2, il_3, il_7, il_9, il_18, il_19, il_36, il_37]; omega) | (simp [zu]; done) | (simp [zu]; omega)) (fun z39 => ?_) (fun z39 => ?_)
          · skip
            try (exfalso; omega)
            all_goals
              exact bX5_set_85  ⟨_, rfl, by first | exact k0 (by first | omega | (simp only [il_2, il_3, il_7, il_9, il_18, il_19, il_36, il_37]; omega) | (simp [zu]; done) | (simp [zu]; omega)) | exact k1 (by first | omega | (simp only [il_2, il_3, il_7, il_9, il_18, il_19, il_36, il_37]; omega) | (simp [zu]; done) | (simp [zu]; omega)) | exact k2 (by first | omega | (simp only [il_2, il_3, il_7, il_9, il_18, il_19, il_36, il_37]; omega) | (simp [zu]; done) | (simp [zu]; omega)) | exact k3 (by first | omega | (simp only [il_2, il_3, il_7, il_9, il_18, il_19, il_36, il_37]; omega) | (simp [zu]; done) | (simp [zu]; omega))⟩
          · exfalso; omega
  · skip
    try (exfalso; omega)
    all_goals
      refine bX5_set_4  ?_
      refine kX5_isRule (by first | omega | (simp only [il_2, il_3, il_7, il_9, il_18, il_19, il_36, il_37]; omega) | (simp [zu]; done) | (simp [zu]; omega)) (by first | omega | (simp only [il_2, il_3, il_7, il_9, il_18, il_19, il_36, il_37]; omega) | (simp [zu]; done) | (simp [zu]; omega)) (fun z4 => ?_) (fun z4 => ?_)
      · skip
        try (exfalso; omega)
        all_goals
          refine bX5_set_9 (by first | omega | (simp only [il_2, il_3, il_7, il_9, il_18, il_19, il_36, il_37]; omega) | (simp [zu]; done) | (simp [zu]; omega)) (fun z9 => ?_) (fun z9 => ?_)
          · exfalso; omega
          · skip
            try (exfalso; omega)
            all_goals
              refine bX5_set_12 (by first | omega | (simp only [il_2, il_3, il_7, il_9, il_18, il_19, il_36, il_37]; omega) | (simp [zu]; done) | (simp [zu]; omega)) (by first | omega | (simp only [il_2, il_3, il_7, il_9, il_18, il_19, il_36, il_37]; omega) | (simp [zu]; done) | (simp [zu]; omega)) (by first | omega | (simp only [il_2, il_3, il_7, il_9, il_18, il_19, il_36, il_37]; omega) | (simp [zu]; done) | (simp [zu]; omega)) ?_
              refine kX5_isLimit (by first | omega | (simp only [il_2, il_3, il_7, il_9, il_18, il_19, il_36, il_37]; omega) | (simp [zu]; done) | (simp [zu]; omega)) (by first | omega | (simp only [il_2, il_3, il_7, il_9, il_18, il_19, il_36, il_37]; omega) | (simp [zu]; done) | (simp [zu]; omega)) (fun z12 => ?_) (fun z12 => ?_)
              · skip
                try (exfalso; omega)
                all_goals
                  refine bX5_set_23 (by first | omega | (simp only [il_2, il_3, il_7, il_9, il_18, il_19, il_36, il_37]; omega) | (simp [zu]; done) | (simp [zu]; omega)) (fun z23 => ?_) (fun z23 => ?_)
                  · exfalso; omega
                  · skip
                    try (exfalso; omega)
                    all_goals
                      refine bX5_set_26 (by first | omega | (simp only [il_2, il_3, il_7, il_9, il_18, il_19, il_36, il_37]; omega) | (simp [zu]; done) | (simp [zu]; omega)) (fun z26 => ?_) (fun z26 => ?_)
                      · skip
                        try (exfalso; omega)
                        all_goals
                          refine bX5_set_109 (by first | omega | (simp only [il_2, il_3, il_7, il_9, il_18, il_19, il_36, il_37]; omega) | (simp [zu]; done) | (simp [zu]; omega)) (fun z109 => ?_) (fun z109 => ?_)
                          · skip
                            try (exfalso; omega)
                            all_goals
                              refine bX5_set_123 (by first | omega | (simp only [il_2, il_3, il_7, il_9, il_18, il_19, il_36, il_37]; omega) | (simp [zu]; done) | (simp [zu]; omega)) (by first | omega | (simp only [il_2, il_3, il_7, il_9, il_18, il_19, il_36, il_37]; omega) | (simp [zu]; done) | (simp [zu]; omega)) (by first | omega | (simp only [il_2, il_3, il_7, il_9, il_18, il_19, il_36, il_37]; omega) | (simp [zu]; done) | (simp [zu]; omega)) (fun z123 => ?_) (fun z123 => ?_)
                              · skip
                                try (exfalso; omega)
                                all_goals
                                  refine bX5_set_145 (by first | omega | (simp only [il_2, il_3, il_7, il_9, il_18, il_19, il_36, il_37]; omega) | (simp [zu]; done) | (simp [zu]; omega)) (fun z145 => ?_) (fun z145 => ?_)
                                  · skip
                                    try (exfalso; omega)
                                    all_goals
                                      exact bX5_set_160 (by first | omega | (simp only [il_2, il_3, il_7, il_9, il_18, il_19, il_36, il_37]; omega) | (simp [zu]; done) | (simp [zu]; omega)) (by first | omega | (simp only [il_2, il_3, il_7, il_9, il_18, il_19, il_36, il_37]; omega) | (simp [zu]; done) | (simp [zu]; omega)) ⟨_, rfl, by first | exact k0 (by first | omega | (simp only [il_2, il_3, il_7, il_9, il_18, il_19, il_36, il_37]; omega) | (simp [zu]; done) | (simp [zu]; omega)) | exact k1 (by first | omega | (simp only [il_2, il_3, il_7, il_9, il_18, il_19, il_36, il_37]; omega) | (simp [zu]; done) | (simp [zu]; omega)) | exact k2 (by first | omega | (simp only [il_2, il_3, il_7, il_9, il_18, il_19, il_36, il_37]; omega) | (simp [zu]; done) | (simp [zu]; omega)) | exact k3 (by first | omega | (simp only [il_2, il_3, il_7, il_9, il_18, il_19, il_36, il_37]; omega) | (simp [zu]; done) | (simp [zu]; omega))⟩
                                  · skip
                                    try (exfalso; omega)
                                    all_goals
                                      exact bX5_set_150 (by first | omega | (simp only [il_2, il_3, il_7, il_9, il_18, il_19, il_36, il_37]; omega) | (simp [zu]; done) | (simp [zu]; omega)) (by first | omega | (simp only [il_2, il_3, il_7, il_9, il_18, il_19, il_36, il_37]; omega) | (simp [zu]; done) | (simp [zu]; omega)) ⟨_, rfl, by first | exact k0 (by first | omega | (simp only [il_2, il_3, il_7, il_9, il_18, il_19, il_36, il_37]; omega) | (simp [zu]; done) | (simp [zu]; omega)) | exact k1 (by first | omega | (simp only [il_2, il_3, il_7, il_9, il_18, il_19, il_36, il_37]; omega) | (simp [zu]; done) | (simp [zu]; omega)) | exact k2 (by first | omega | (simp only [il_2, il_3, il_7, il_9, il_18, il_19, il_36, il_37]; omega) | (simp [zu]; done) | (simp [zu]; omega)) | exact k3 (by first | omega | (simp only [il_2, il_3, il_7, il_9, il_18, il_19, il_36, il_37]; omega) | (simp [zu]; done) | (simp [zu]; omega))⟩
                              · skip
                                try (exfalso; omega)
                                all_goals
                                  exact bX5_set_135 (by first | omega | (simp only [il_2, il_3, il_7, il_9, il_18, il_19, il_36, il_37]; omega) | (simp [zu]; done) | (simp [zu]; omega)) (by first | omega | (simp only [il_2, il_3, il_7, il_9, il_18, il_19, il_36, il_37]; omega) | (simp [zu]; done) | (simp [zu]; omega)) ⟨_, rfl, by first | exact k0 (by first | omega | (simp only [il_2, il_3, il_7, il_9, il_18, il_19, il_36, il_37]; omega) | (simp [zu]; done) | (simp [zu]; omega)) | exact k1 (by first | omega | (simp only [il_2, il_3, il_7, il_9, il_18, il_19, il_36, il_37]; omega) | (simp [zu]; done) | (simp [zu]; omega)) | exact k2 (by first | omega | (simp only [il_2, il_3, il_7, il_9, il_18, il_19, il_36, il_37]; omega) | (simp [zu]; done) | (simp [zu]; omega)) | exact k3 (by first | omega | (simp only [il_2, il_3, il_7, il_9, il_18, il_19, il_36, il_37]; omega) | (simp [zu]; done) | (simp [zu]; omega))⟩
                          · skip
                            try (exfalso; omega)
                            all_goals
                              refine bX5_set_114 (by first | omega | (simp only [il_2, il_3, il_7, il_9, il_18, il_19, il_36, il_37]; omega) | (simp [zu]; done) | (simp [zu]; omega)) (by first | omega | (simp only [il_2, il_3, il_7, il_9, il_18, il_19, il_36, il_37]; omega) | (simp [zu]; done) | (simp [zu]; omega)) (by first | omega | (simp only [il_2, il_3, il_7, il_9, il_18, il_19, il_36, il_37]; omega) | (simp [zu]; done) | (simp [zu]; omega)) (fun z114 => ?_) (fun z114 => ?_)
                              · skip
                                try (exfalso; omega)
                                all_goals
                                  refine bX5_set_145 (by first | omega | (simp only [il_2, il_3, il_7, il_9, il_18, il_19, il_36, il_37]; omega) | (simp [zu]; done) | (simp [zu]; omega)) (fun z145 => ?_) (fun z145 => ?_)
                                  · skip
                                    try (exfalso; omega)
                                    all_goals
                                      exact bX5_set_160 (by first | omega | (simp only [il_2, il_3, il_7, il_9, il_18, il_19, il_36, il_37]; omega) | (simp [zu]; done) | (simp [zu]; omega)) (by first | omega | (simp only [il_2, il_3, il_7, il_9, il_18, il_19, il_36, il_37]; omega) | (simp [zu]; done) | (simp [zu]; omega)) ⟨_, rfl, by first | exact k0 (by first | omega | (simp only [il_2, il_3, il_7, il_9, il_18, il_19, il_36, il_37]; omega) | (simp [zu]; done) | (simp [zu]; omega)) | exact k1 (by first | omega | (simp only [il_2, il_3, il_7, il_9, il_18, il_19, il_36, il_37]; omega) | (simp [zu]; done) | (simp [zu]; omega)) | exact k2 (by first | omega | (simp only [il_2, il_3, il_7, il_9, il_18, il_19, il_36, il_37]; omega) | (simp [zu]; done) | (simp [zu]; omega)) | exact k3 (by first | omega | (simp only [il_2, il_3, il_7, il_9, il_18, il_19, il_36, il_37]; omega) | (simp [zu]; done) | (simp [zu]; omega))⟩
                                  · skip
                                    try (exfalso; omega)
                                    all_goals
                                      exact bX5_set_150 (by first | omega | (simp only [il_2, il_3, il_7, il_9, il_18, il_19, il_36, il_37]; omega) | (simp [zu]; done) | (simp [zu]; omega)) (by first | omega | (simp only [il_2, il_3, il_7, il_9, il_18, il_19, il_36, il_37]; omega) | (simp [zu]; done) | (simp [zu]; omega)) ⟨_, rfl, by first | exact k0 (by first | omega | (simp only [il_2, il_3, il_7, il_9, il_18, il_19, il_36, il_37]; omega) | (simp [zu]; done) | (simp [zu]; omega)) | exact k1 (by first | omega | (simp only [il_2, il_3, il_7, il_9, il_18, il_19, il_36, il_37]; omega) | (simp [zu]; done) | (simp [zu]; omega)) | exact k2 (by first | omega | (simp only [il_2, il_3, il_7, il_9, il_18, il_19, il_36, il_37]; omega) | (simp [zu]; done) | (simp [zu]; omega)) | exact k3 (by first | omega | (simp only [il_2, il_3, il_7, il_9, il_18, il_19, il_36, il_37]; omega) | (simp [zu]; done) | (simp [zu]; omega))⟩
                              · skip
                                try (exfalso; omega)
                                all_goals
                                  exact bX5_set_135 (by first | omega | (simp only [il_2, il_3, il_7, il_9, il_18, il_19, il_36, il_37]; omega) | (simp [zu]; done) | (simp [zu]; omega)) (by first | omega | (simp only [il_2, il_3, il_7, il_9, il_18, il_19, il_36, il_37]; omega) | (simp [zu]; done) | (simp [zu]; omega)) ⟨_, rfl, by first | exact k0 (by first | omega | (simp only [il_2, il_3, il_7, il_9, il_18, il_19, il_36, il_37]; omega) | (simp [zu]; done) | (simp [zu]; omega)) | exact k1 (by first | omega | (simp only [il_2, il_3, il_7, il_9, il_18, il_19, il_36, il_37]; omega) | (simp [zu]; done) | (simp [zu]; omega)) | exact k2 (by first | omega | (simp only [il_2, il_3, il_7, il_9, il_18, il_19, il_36, il_37]; omega) | (simp [zu]; done) | (simp [zu]; omega)) | exact k3 (by first | omega | (simp only [il_2, il_3, il_7, il_9, il_18, il_19, il_36, il_37]; omega) | (simp [zu]; done) | (simp [zu]; omega))⟩
                      · skip
                        try (exfalso; omega)
                        all_goals
                          refine bX5_set_100 (by first | omega | (simp only [il_2, il_3, il_7, il_9, il_18, il_19, il_36, il_37]; omega) | (simp [zu]; done) | (simp [zu]; omega)) (by first | omega | (simp only [il_2, il_3, il_7, il_9, il_18, il_19, il_36, il_37]; omega) | (simp [zu]; done) | (simp [zu]; omega)) (by first | omega | (simp only [il_2, il_3, il_7, il_9, il_18, il_19, il_36, il_37]; omega) | (simp [zu]; done) | (simp [zu]; omega)) (fun z100 => ?_) (fun z100 => ?_)
                          · skip
                            try (exfalso; omega)
                            all_goals
                              refine bX5_set_145 (by first | omega | (simp only [il_2, il_3, il_7, il_9, il_18, il_19, il_36, il_37]; omega) | (simp [zu]; done) | (simp [zu]; omega)) (fun z145 => ?_) (fun z145 => ?_)
                              · skip
                                try (exfalso; omega)
                                all_goals
                                  exact bX5_set_160 (by first | omega | (simp only [il_2, il_3, il_7, il_9, il_18, il_19, il_36, il_37]; omega) | (simp [zu]; done) | (simp [zu]; omega)) (by first | omega | (simp only [il_2, il_3, il_7, il_9, il_18, il_19, il_36, il_37]; omega) | (simp [zu]; done) | (simp [zu]; omega)) ⟨_, rfl, by first | exact k0 (by first | omega | (simp only [il_2, il_3, il_7, il_9, il_18, il_19, il_36, il_37]; omega) | (simp [zu]; done) | (simp [zu]; omega)) | exact k1 (by first | omega | (simp only [il_2, il_3, il_7, il_9, il_18, il_19, il_36, il_37]; omega) | (simp [zu]; done) | (simp [zu]; omega)) | exact k2 (by first | omega | (simp only [il_2, il_3, il_7, il_9, il_18, il_19, il_36, il_37]; omega) | (simp [zu]; done) | (simp [zu]; omega)) | exact k3 (by first | omega | (simp only [il_2, il_3, il_7, il_9, il_18, il_19, il_36, il_37]; omega) | (simp [zu]; done) | (simp [zu]; omega))⟩
                              · skip
                                try (exfalso; omega)
                                all_goals
                                  exact bX5_set_150 (by first | omega | (simp only [il_2, il_3, il_7, il_9, il_18, il_19, il_36, il_37]; omega) | (simp [zu]; done) | (simp [zu]; omega)) (by first | omega | (simp only [il_2, il_3, il_7, il_9, il_18, il_19, il_36, il_37]; omega) | (simp [zu]; done) | (simp [zu]; omega)) ⟨_, rfl, by first | exact k0 (by first | omega | (simp only [il_2, il_3, il_7, il_9, il_18, il_19, il_36, il_37]; omega) | (simp [zu]; done) | (simp [zu]; omega)) | exact k1 (by first | omega | (simp only [il_2, il_3, il_7, il_9, il_18, il_19, il_36, il_37]; omega) | (simp [zu]; done) | (simp [zu]; omega)) | exact k2 (by first | omega | (simp only [il_2, il_3, il_7, il_9, il_18, il_19, il_36, il_37]; omega) | (simp [zu]; done) | (simp [zu]; omega)) | exact k3 (by first | omega | (simp only [il_2, il_3, il_7, il_9, il_18, il_19, il_36, il_37]; omega) | (simp [zu]; done) | (simp [zu]; omega))⟩
                          · skip
                            try (exfalso; omega)
                            all_goals
                              exact bX5_set_135 (by first | omega | (simp only [il_2, il_3, il_7, il_9, il_18, il_19, il_36, il_37]; omega) | (simp [zu]; done) | (simp [zu]; omega)) (by first | omega | (simp only [il_2, il_3, il_7, il_9, il_18, il_19, il_36, il_37]; omega) | (simp [zu]; done) | (simp [zu]; omega)) ⟨_, rfl, by first | exact k0 (by first | omega | (simp only [il_2, il_3, il_7, il_9, il_18, il_19, il_36, il_37]; omega) | (simp [zu]; done) | (simp [zu]; omega)) | exact k1 (by first | omega | (simp only [il_2, il_3, il_7, il_9, il_18, il_19, il_36, il_37]; omega) | (simp [zu]; done) | (simp [zu]; omega)) | exact k2 (by first | omega | (simp only [il_2, il_3, il_7, il_9, il_18, il_19, il_36, il_37]; omega) | (simp [zu]; done) | (simp [zu]; omega)) | exact k3 (by first | omega | (simp only [il_2, il_3, il_7, il_9, il_18, il_19, il_36, il_37]; omega) | (simp [zu]; done) | (simp [zu]; omega))⟩
              · skip
                try (exfalso; omega)
                all_goals
                  refine bX5_set_23 (by first | omega | (simp only [il_2, il_3, il_7, il_9, il_18, il_19, il_36, il_37]; omega) | (simp [zu]; done) | (simp [zu]; omega)) (fun z23 => ?_) (fun z23 => ?_)
                  · skip
                    try (exfalso; omega)
                    all_goals
                      exact bX5_set_30  ⟨_, rfl, by first | exact k0 (by first | omega | (simp only [il_2, il_3, il_7, il_9, il_18, il_19, il_36, il_37]; omega) | (simp [zu]; done) | (simp [zu]; omega)) | exact k1 (by first | omega | (simp only [il_2, il_3, il_7, il_9, il_18, il_19, il_36, il_37]; omega) | (simp [zu]; done) | (simp [zu]; omega)) | exact k2 (by first | omega | (simp only [il_2, il_3, il_7, il_9, il_18, il_19, il_36, il_37]; omega) | (simp [zu]; done) | (simp [zu]; omega)) | exact k3 (by first | omega | (simp only [il_2, il_3, il_7, il_9, il_18, il_19, il_36, il_37]; omega) | (simp [zu]; done) | (simp [zu]; omega))⟩
                  · exfalso; omega
      · skip
        try (exfalso; omega)
        all_goals
          refine bX5_set_9 (by first | omega | (simp only [il_2, il_3, il_7, il_9, il_18, il_19, il_36, il_37]; omega) | (simp [zu]; done) | (simp [zu]; omega)) (fun z9 => ?_) (fun z9 => ?_)
          · skip
            try (exfalso; omega)
            all_goals
              exact bX5_set_30  ⟨_, rfl, by first | exact k0 (by first | omega | (simp only [il_2, il_3, il_7, il_9, il_18, il_19, il_36, il_37]; omega) | (simp [zu]; done) | (simp [zu]; omega)) | exact k1 (by first | omega | (simp only [il_2, il_3, il_7, il_9, il_18, il_19, il_36, il_37]; omega) | (simp [zu]; done) | (simp [zu]; omega)) | exact k2 (by first | omega | (simp only [il_2, il_3, il_7, il_9, il_18, il_19, il_36, il_37]; omega) | (simp [zu]; done) | (simp [zu]; omega)) | exact k3 (by first | omega | (simp only [il_2, il_3, il_7, il_9, il_18, il_19, il_36, il_37]; omega) | (simp [zu]; done) | (simp [zu]; omega))⟩
          · exfalso; omega
theorem kX5_put {d : Nat} {Z Y : Nat → Nat → Int} {S : Nat × (Nat → Int32)} {K : Int → jj_Hp → Prop} {t v : Int} (ht : -2147483648 ≤ t ∧ t ≤ 2147483647) (hv : -2147483648 ≤ v ∧ v ≤ 2147483647) (hn : 0 ≤ Z 27 0 ∧ Z 27 0 ≤ 4) (k0 : ¬ (0 ≤ t ∧ t < Z 27 0) ∨ ¬ (0 ≤ v ∧ v ≤ 9) → K (-1000001) (jj_h Z Y S)) (k1 : (0 ≤ t ∧ t < Z 27 0) ∧ (0 ≤ v ∧ v ≤ 9) → K (Z 36 t.toNat) (jj_h (zu Z 36 (t.toNat) v) Y S)) : jj_Ci (d + 2) mX5_put [.ref 27, iv t, iv v] (jj_h Z Y S) K := by
  refine nX5_put ?_
  refine bX5_put_0  ?_
  refine kX5_isThing (by first | omega | (simp only [il_2, il_3, il_7, il_9, il_18, il_19, il_36, il_37]; omega) | (simp [zu]; done) | (simp [zu]; omega)) (by first | omega | (simp only [il_2, il_3, il_7, il_9, il_18, il_19, il_36, il_37]; omega) | (simp [zu]; done) | (simp [zu]; omega)) (fun z0 => ?_) (fun z0 => ?_)
  · skip
    try (exfalso; omega)
    all_goals
      refine bX5_put_5 (by first | omega | (simp only [il_2, il_3, il_7, il_9, il_18, il_19, il_36, il_37]; omega) | (simp [zu]; done) | (simp [zu]; omega)) (fun z5 => ?_) (fun z5 => ?_)
      · exfalso; omega
      · skip
        try (exfalso; omega)
        all_goals
          refine bX5_put_8 (by first | omega | (simp only [il_2, il_3, il_7, il_9, il_18, il_19, il_36, il_37]; omega) | (simp [zu]; done) | (simp [zu]; omega)) ?_
          refine kX5_in (by first | omega | (simp only [il_2, il_3, il_7, il_9, il_18, il_19, il_36, il_37]; omega) | (simp [zu]; done) | (simp [zu]; omega)) (by first | omega | (simp only [il_2, il_3, il_7, il_9, il_18, il_19, il_36, il_37]; omega) | (simp [zu]; done) | (simp [zu]; omega)) (by first | omega | (simp only [il_2, il_3, il_7, il_9, il_18, il_19, il_36, il_37]; omega) | (simp [zu]; done) | (simp [zu]; omega)) (fun z8 => ?_) (fun z8 => ?_)
          · skip
            try (exfalso; omega)
            all_goals
              refine bX5_put_17 (by first | omega | (simp only [il_2, il_3, il_7, il_9, il_18, il_19, il_36, il_37]; omega) | (simp [zu]; done) | (simp [zu]; omega)) (fun z17 => ?_) (fun z17 => ?_)
              · skip
                try (exfalso; omega)
                all_goals
                  exact bX5_put_23 (by first | omega | (simp only [il_2, il_3, il_7, il_9, il_18, il_19, il_36, il_37]; omega) | (simp [zu]; done) | (simp [zu]; omega)) (by first | omega | (simp only [il_2, il_3, il_7, il_9, il_18, il_19, il_36, il_37]; omega) | (simp [zu]; done) | (simp [zu]; omega)) (by first | omega | (simp only [il_2, il_3, il_7, il_9, il_18, il_19, il_36, il_37]; omega) | (simp [zu]; done) | (simp [zu]; omega)) (by first | omega | (simp only [il_2, il_3, il_7, il_9, il_18, il_19, il_36, il_37]; omega) | (simp [zu]; done) | (simp [zu]; omega)) ⟨_, rfl, by first | exact k0 (by first | omega | (simp only [il_2, il_3, il_7, il_9, il_18, il_19, il_36, il_37]; omega) | (simp [zu]; done) | (simp [zu]; omega)) | exact k1 (by first | omega | (simp only [il_2, il_3, il_7, il_9, il_18, il_19, il_36, il_37]; omega) | (simp [zu]; done) | (simp [zu]; omega))⟩
              · exfalso; omega
          · skip
            try (exfalso; omega)
            all_goals
              refine bX5_put_17 (by first | omega | (simp only [il_2, il_3, il_7, il_9, il_18, il_19, il_36, il_37]; omega) | (simp [zu]; done) | (simp [zu]; omega)) (fun z17 => ?_) (fun z17 => ?_)
              · exfalso; omega
              · skip
                try (exfalso; omega)
                all_goals
                  exact bX5_put_20  ⟨_, rfl, by first | exact k0 (by first | omega | (simp only [il_2, il_3, il_7, il_9, il_18, il_19, il_36, il_37]; omega) | (simp [zu]; done) | (simp [zu]; omega)) | exact k1 (by first | omega | (simp only [il_2, il_3, il_7, il_9, il_18, il_19, il_36, il_37]; omega) | (simp [zu]; done) | (simp [zu]; omega))⟩
  · skip
    try (exfalso; omega)
    all_goals
      refine bX5_put_5 (by first | omega | (simp only [il_2, il_3, il_7, il_9, il_18, il_19, il_36, il_37]; omega) | (simp [zu]; done) | (simp [zu]; omega)) (fun z5 => ?_) (fun z5 => ?_)
      · skip
        try (exfalso; omega)
        all_goals
          exact bX5_put_20  ⟨_, rfl, by first | exact k0 (by first | omega | (simp only [il_2, il_3, il_7, il_9, il_18, il_19, il_36, il_37]; omega) | (simp [zu]; done) | (simp [zu]; omega)) | exact k1 (by first | omega | (simp only [il_2, il_3, il_7, il_9, il_18, il_19, il_36, il_37]; omega) | (simp [zu]; done) | (simp [zu]; omega))⟩
      · exfalso; omega

/-! RulePrices: what is small -/
theorem il_2 : jj_il 2 = 4 := rfl
theorem il_3 : jj_il 3 = 4 := rfl
theorem il_7 : jj_il 7 = 6 := rfl
theorem il_9 : jj_il 9 = 24 := rfl
theorem il_18 : jj_il 18 = 40 := rfl
theorem il_19 : jj_il 19 = 6 := rfl
theorem il_36 : jj_il 36 = 4 := rfl
theorem il_37 : jj_il 37 = 4 := rfl
theorem kX4_isThing {d : Nat} {Z Y : Nat → Nat → Int} {S : Nat × (Nat → Int32)} {K : Int → jj_Hp → Prop} {t : Int} (ht : -2147483648 ≤ t ∧ t ≤ 2147483647) (hn : 0 ≤ Z 1 0 ∧ Z 1 0 ≤ 4) (k0 : 0 ≤ t ∧ t < Z 1 0 → K 1 (jj_h Z Y S)) (k1 : ¬ (0 ≤ t ∧ t < Z 1 0) → K 0 (jj_h Z Y S)) : jj_Ci d mX4_isThing [.ref 0, iv t] (jj_h Z Y S) K := by
  refine nX4_isThing ?_
  refine bX4_isThing_0 (by first | omega | (simp only [il_2, il_3, il_7, il_9, il_18, il_19, il_36, il_37]; omega) | (simp [zu]; done) | (simp [zu]; omega)) (fun z0 => ?_) (fun z0 => ?_)
  · skip
    try (exfalso; omega)
    all_goals
      exact bX4_isThing_19  ⟨_, rfl, by first | exact k0 (by first | omega | (simp only [il_2, il_3, il_7, il_9, il_18, il_19, il_36, il_37]; omega) | (simp [zu]; done) | (simp [zu]; omega)) | exact k1 (by first | omega | (simp only [il_2, il_3, il_7, il_9, il_18, il_19, il_36, il_37]; omega) | (simp [zu]; done) | (simp [zu]; omega))⟩
  · skip
    try (exfalso; omega)
    all_goals
      refine bX4_isThing_4 (by first | omega | (simp only [il_2, il_3, il_7, il_9, il_18, il_19, il_36, il_37]; omega) | (simp [zu]; done) | (simp [zu]; omega)) (by first | omega | (simp only [il_2, il_3, il_7, il_9, il_18, il_19, il_36, il_37]; omega) | (simp [zu]; done) | (simp [zu]; omega)) (fun z4 => ?_) (fun z4 => ?_)
      · skip
        try (exfalso; omega)
        all_goals
          exact bX4_isThing_19  ⟨_, rfl, by first | exact k0 (by first | omega | (simp only [il_2, il_3, il_7, il_9, il_18, il_19, il_36, il_37]; omega) | (simp [zu]; done) | (simp [zu]; omega)) | exact k1 (by first | omega | (simp only [il_2, il_3, il_7, il_9, il_18, il_19, il_36, il_37]; omega) | (simp [zu]; done) | (simp [zu]; omega))⟩
      · skip
        try (exfalso; omega)
        all_goals
          exact bX4_isThing_15  ⟨_, rfl, by first | exact k0 (by first | omega | (simp only [il_2, il_3, il_7, il_9, il_18, il_19, il_36, il_37]; omega) | (simp [zu]; done) | (simp [zu]; omega)) | exact k1 (by first | omega | (simp only [il_2, il_3, il_7, il_9, il_18, il_19, il_36, il_37]; omega) | (simp [zu]; done) | (simp [zu]; omega))⟩
theorem kX4_isRule {d : Nat} {Z Y : Nat → Nat → Int} {S : Nat × (Nat → Int32)} {K : Int → jj_Hp → Prop} {t : Int} (ht : -2147483648 ≤ t ∧ t ≤ 2147483647) (hm : 0 ≤ Z 1 1 ∧ Z 1 1 ≤ 6) (k0 : 0 ≤ t ∧ t < Z 1 1 → K 1 (jj_h Z Y S)) (k1 : ¬ (0 ≤ t ∧ t < Z 1 1) → K 0 (jj_h Z Y S)) : jj_Ci d mX4_isRule [.ref 0, iv t] (jj_h Z Y S) K := by
  refine nX4_isRule ?_
  refine bX4_isRule_0 (by first | omega | (simp only [il_2, il_3, il_7, il_9, il_18, il_19, il_36, il_37]; omega) | (simp [zu]; done) | (simp [zu]; omega)) (fun z0 => ?_) (fun z0 => ?_)
  · skip
    try (exfalso; omega)
    all_goals
      exact bX4_isRule_19  ⟨_, rfl, by first | exact k0 (by first | omega | (simp only [il_2, il_3, il_7, il_9, il_18, il_19, il_36, il_37]; omega) | (simp [zu]; done) | (simp [zu]; omega)) | exact k1 (by first | omega | (simp only [il_2, il_3, il_7, il_9, il_18, il_19, il_36, il_37]; omega) | (simp [zu]; done) | (simp [zu]; omega))⟩
  · skip
    try (exfalso; omega)
    all_goals
      refine bX4_isRule_4 (by first | omega | (simp only [il_2, il_3, il_7, il_9, il_18, il_19, il_36, il_37]; omega) | (simp [zu]; done) | (simp [zu]; omega)) (by first | omega | (simp only [il_2, il_3, il_7, il_9, il_18, il_19, il_36, il_37]; omega) | (simp [zu]; done) | (simp [zu]; omega)) (fun z4 => ?_) (fun z4 => ?_)
      · skip
        try (exfalso; omega)
        all_goals
          exact bX4_isRule_19  ⟨_, rfl, by first | exact k0 (by first | omega | (simp only [il_2, il_3, il_7, il_9, il_18, il_19, il_36, il_37]; omega) | (simp [zu]; done) | (simp [zu]; omega)) | exact k1 (by first | omega | (simp only [il_2, il_3, il_7, il_9, il_18, il_19, il_36, il_37]; omega) | (simp [zu]; done) | (simp [zu]; omega))⟩
      · skip
        try (exfalso; omega)
        all_goals
          exact bX4_isRule_15  ⟨_, rfl, by first | exact k0 (by first | omega | (simp only [il_2, il_3, il_7, il_9, il_18, il_19, il_36, il_37]; omega) | (simp [zu]; done) | (simp [zu]; omega)) | exact k1 (by first | omega | (simp only [il_2, il_3, il_7, il_9, il_18, il_19, il_36, il_37]; omega) | (simp [zu]; done) | (simp [zu]; omega))⟩
theorem kX4_isWorth {d : Nat} {Z Y : Nat → Nat → Int} {S : Nat × (Nat → Int32)} {K : Int → jj_Hp → Prop} {v : Int} (hv : -2147483648 ≤ v ∧ v ≤ 2147483647) (k0 : -99 ≤ v ∧ v ≤ 99 → K 1 (jj_h Z Y S)) (k1 : ¬ (-99 ≤ v ∧ v ≤ 99) → K 0 (jj_h Z Y S)) : jj_Ci d mX4_isWorth [iv v] (jj_h Z Y S) K := by
  refine nX4_isWorth ?_
  refine bX4_isWorth_0 (by first | omega | (simp only [il_2, il_3, il_7, il_9, il_18, il_19, il_36, il_37]; omega) | (simp [zu]; done) | (simp [zu]; omega)) (fun z0 => ?_) (fun z0 => ?_)
  · skip
    try (exfalso; omega)
    all_goals
      exact bX4_isWorth_16  ⟨_, rfl, by first | exact k0 (by first | omega | (simp only [il_2, il_3, il_7, il_9, il_18, il_19, il_36, il_37]; omega) | (simp [zu]; done) | (simp [zu]; omega)) | exact k1 (by first | omega | (simp only [il_2, il_3, il_7, il_9, il_18, il_19, il_36, il_37]; omega) | (simp [zu]; done) | (simp [zu]; omega))⟩
  · skip
    try (exfalso; omega)
    all_goals
      refine bX4_isWorth_6 (by first | omega | (simp only [il_2, il_3, il_7, il_9, il_18, il_19, il_36, il_37]; omega) | (simp [zu]; done) | (simp [zu]; omega)) (fun z6 => ?_) (fun z6 => ?_)
      · skip
        try (exfalso; omega)
        all_goals
          exact bX4_isWorth_16  ⟨_, rfl, by first | exact k0 (by first | omega | (simp only [il_2, il_3, il_7, il_9, il_18, il_19, il_36, il_37]; omega) | (simp [zu]; done) | (simp [zu]; omega)) | exact k1 (by first | omega | (simp only [il_2, il_3, il_7, il_9, il_18, il_19, il_36, il_37]; omega) | (simp [zu]; done) | (simp [zu]; omega))⟩
      · skip
        try (exfalso; omega)
        all_goals
          exact bX4_isWorth_12  ⟨_, rfl, by first | exact k0 (by first | omega | (simp only [il_2, il_3, il_7, il_9, il_18, il_19, il_36, il_37]; omega) | (simp [zu]; done) | (simp [zu]; omega)) | exact k1 (by first | omega | (simp only [il_2, il_3, il_7, il_9, il_18, il_19, il_36, il_37]; omega) | (simp [zu]; done) | (simp [zu]; omega))⟩
theorem kX4_isCount {d : Nat} {Z Y : Nat → Nat → Int} {S : Nat × (Nat → Int32)} {K : Int → jj_Hp → Prop} {v : Int} (hv : -2147483648 ≤ v ∧ v ≤ 2147483647) (k0 : 0 ≤ v ∧ v ≤ 9 → K 1 (jj_h Z Y S)) (k1 : ¬ (0 ≤ v ∧ v ≤ 9) → K 0 (jj_h Z Y S)) : jj_Ci d mX4_isCount [iv v] (jj_h Z Y S) K := by
  refine nX4_isCount ?_
  refine bX4_isCount_0 (by first | omega | (simp only [il_2, il_3, il_7, il_9, il_18, il_19, il_36, il_37]; omega) | (simp [zu]; done) | (simp [zu]; omega)) (fun z0 => ?_) (fun z0 => ?_)
  · skip
    try (exfalso; omega)
    all_goals
      exact bX4_isCount_14  ⟨_, rfl, by first | exact k0 (by first | omega | (simp only [il_2, il_3, il_7, il_9, il_18, il_19, il_36, il_37]; omega) | (simp [zu]; done) | (simp [zu]; omega)) | exact k1 (by first | omega | (simp only [il_2, il_3, il_7, il_9, il_18, il_19, il_36, il_37]; omega) | (simp [zu]; done) | (simp [zu]; omega))⟩
  · skip
    try (exfalso; omega)
    all_goals
      refine bX4_isCount_4 (by first | omega | (simp only [il_2, il_3, il_7, il_9, il_18, il_19, il_36, il_37]; omega) | (simp [zu]; done) | (simp [zu]; omega)) (fun z4 => ?_) (fun z4 => ?_)
      · skip
        try (exfalso; omega)
        all_goals
          exact bX4_isCount_14  ⟨_, rfl, by first | exact k0 (by first | omega | (simp only [il_2, il_3, il_7, il_9, il_18, il_19, il_36, il_37]; omega) | (simp [zu]; done) | (simp [zu]; omega)) | exact k1 (by first | omega | (simp only [il_2, il_3, il_7, il_9, il_18, il_19, il_36, il_37]; omega) | (simp [zu]; done) | (simp [zu]; omega))⟩
      · skip
        try (exfalso; omega)
        all_goals
          exact bX4_isCount_10  ⟨_, rfl, by first | exact k0 (by first | omega | (simp only [il_2, il_3, il_7, il_9, il_18, il_19, il_36, il_37]; omega) | (simp [zu]; done) | (simp [zu]; omega)) | exact k1 (by first | omega | (simp only [il_2, il_3, il_7, il_9, il_18, il_19, il_36, il_37]; omega) | (simp [zu]; done) | (simp [zu]; omega))⟩
theorem kX4_isLimit {d : Nat} {Z Y : Nat → Nat → Int} {S : Nat × (Nat → Int32)} {K : Int → jj_Hp → Prop} {q v : Int} (hq : -2147483648 ≤ q ∧ q ≤ 2147483647) (hv : -9223372036854775808 ≤ v ∧ v ≤ 9223372036854775807) (k0 : 0 ≤ v ∧ ((q = 0 ∧ v ≤ 999) ∨ (¬ q = 0 ∧ v ≤ 9)) → K 1 (jj_h Z Y S)) (k1 : ¬ (0 ≤ v ∧ ((q = 0 ∧ v ≤ 999) ∨ (¬ q = 0 ∧ v ≤ 9))) → K 0 (jj_h Z Y S)) : jj_Ci d mX4_isLimit [iv q, lv v] (jj_h Z Y S) K := by
  refine nX4_isLimit ?_
  refine bX4_isLimit_0 (by first | omega | (simp only [il_2, il_3, il_7, il_9, il_18, il_19, il_36, il_37]; omega) | (simp [zu]; done) | (simp [zu]; omega)) (fun z0 => ?_) (fun z0 => ?_)
  · skip
    try (exfalso; omega)
    all_goals
      exact bX4_isLimit_28  ⟨_, rfl, by first | exact k0 (by first | omega | (simp only [il_2, il_3, il_7, il_9, il_18, il_19, il_36, il_37]; omega) | (simp [zu]; done) | (simp [zu]; omega)) | exact k1 (by first | omega | (simp only [il_2, il_3, il_7, il_9, il_18, il_19, il_36, il_37]; omega) | (simp [zu]; done) | (simp [zu]; omega))⟩
  · skip
    try (exfalso; omega)
    all_goals
      refine bX4_isLimit_6 (by first | omega | (simp only [il_2, il_3, il_7, il_9, il_18, il_19, il_36, il_37]; omega) | (simp [zu]; done) | (simp [zu]; omega)) (fun z6 => ?_) (fun z6 => ?_)
      · skip
        try (exfalso; omega)
        all_goals
          refine bX4_isLimit_17 (by first | omega | (simp only [il_2, il_3, il_7, il_9, il_18, il_19, il_36, il_37]; omega) | (simp [zu]; done) | (simp [zu]; omega)) (fun z17 => ?_) (fun z17 => ?_)
          · skip
            try (exfalso; omega)
            all_goals
              exact bX4_isLimit_28  ⟨_, rfl, by first | exact k0 (by first | omega | (simp only [il_2, il_3, il_7, il_9, il_18, il_19, il_36, il_37]; omega) | (simp [zu]; done) | (simp [zu]; omega)) | exact k1 (by first | omega | (simp only [il_2, il_3, il_7, il_9, il_18, il_19, il_36, il_37]; omega) | (simp [zu]; done) | (simp [zu]; omega))⟩
          · skip
            try (exfalso; omega)
            all_goals
              exact bX4_isLimit_24  ⟨_, rfl, by first | exact k0 (by first | omega | (simp only [il_2, il_3, il_7, il_9, il_18, il_19, il_36, il_37]; omega) | (simp [zu]; done) | (simp [zu]; omega)) | exact k1 (by first | omega | (simp only [il_2, il_3, il_7, il_9, il_18, il_19, il_36, il_37]; omega) | (simp [zu]; done) | (simp [zu]; omega))⟩
      · skip
        try (exfalso; omega)
        all_goals
          refine bX4_isLimit_11 (by first | omega | (simp only [il_2, il_3, il_7, il_9, il_18, il_19, il_36, il_37]; omega) | (simp [zu]; done) | (simp [zu]; omega)) (fun z11 => ?_) (fun z11 => ?_)
          · skip
            try (exfalso; omega)
            all_goals
              exact bX4_isLimit_28  ⟨_, rfl, by first | exact k0 (by first | omega | (simp only [il_2, il_3, il_7, il_9, il_18, il_19, il_36, il_37]; omega) | (simp [zu]; done) | (simp [zu]; omega)) | exact k1 (by first | omega | (simp only [il_2, il_3, il_7, il_9, il_18, il_19, il_36, il_37]; omega) | (simp [zu]; done) | (simp [zu]; omega))⟩
          · skip
            try (exfalso; omega)
            all_goals
              exact bX4_isLimit_24  ⟨_, rfl, by first | exact k0 (by first | omega | (simp only [il_2, il_3, il_7, il_9, il_18, il_19, il_36, il_37]; omega) | (simp [zu]; done) | (simp [zu]; omega)) | exact k1 (by first | omega | (simp only [il_2, il_3, il_7, il_9, il_18, il_19, il_36, il_37]; omega) | (simp [zu]; done) | (simp [zu]; omega))⟩
theorem kX4_markChanged {d : Nat} {Z Y : Nat → Nat → Int} {S : Nat × (Nat → Int32)} {K : jj_Hp → Prop}   (k0 : K (jj_h (zu (zu Z 0 5 0) 0 6 0) Y S)) : jj_Cv d mX4_markChanged [.ref 0] (jj_h Z Y S) K := by
  refine nX4_markChanged ?_
  exact bX4_markChanged_0  ⟨rfl, by first | exact k0⟩
theorem kX4_replace {d : Nat} {Z Y : Nat → Nat → Int} {S : Nat × (Nat → Int32)} {K : Int → jj_Hp → Prop} {a : Nat} {i v : Int} (hi : 0 ≤ i) (hl : i < ((jj_il a : Nat) : Int)) (k0 : K (Z a i.toNat) (jj_h (zu (zu (zu Z a i.toNat v) 0 5 0) 0 6 0) Y S)) : jj_Ci (d + 1) mX4_replace [.ref 0, .ref a, iv i, iv v] (jj_h Z Y S) K := by
  refine nX4_replace ?_
  refine bX4_replace_0 (by first | omega | (simp only [il_2, il_3, il_7, il_9, il_18, il_19, il_36, il_37]; omega) | (simp [zu]; done) | (simp [zu]; omega)) (by first | omega | (simp only [il_2, il_3, il_7, il_9, il_18, il_19, il_36, il_37]; omega) | (simp [zu]; done) | (simp [zu]; omega)) (by first | omega | (simp only [il_2, il_3, il_7, il_9, il_18, il_19, il_36, il_37]; omega) | (simp [zu]; done) | (simp [zu]; omega)) (by first | omega | (simp only [il_2, il_3, il_7, il_9, il_18, il_19, il_36, il_37]; omega) | (simp [zu]; done) | (simp [zu]; omega)) ?_
  refine kX4_markChanged  ?_
  exact bX4_replace_13  ⟨_, rfl, by first | exact k0⟩
theorem kX0_addThing {d : Nat} {Z Y : Nat → Nat → Int} {S : Nat × (Nat → Int32)} {K : Int → jj_Hp → Prop} {w q : Int} (hn : 0 ≤ Z 1 0 ∧ Z 1 0 < 4) (k0 : K (Z 1 0) (jj_h (zu (zu (zu Z 2 ((Z 1 0).toNat) w) 3 ((Z 1 0).toNat) q) 1 0 ((Z 1 0) + 1)) Y S)) : jj_Ci d mX0_addThing [.ref 1, iv w, iv q] (jj_h Z Y S) K := by
  refine nX0_addThing ?_
  exact bX0_addThing_0 (by first | omega | (simp only [il_2, il_3, il_7, il_9, il_18, il_19, il_36, il_37]; omega) | (simp [zu]; done) | (simp [zu]; omega)) (by first | omega | (simp only [il_2, il_3, il_7, il_9, il_18, il_19, il_36, il_37]; omega) | (simp [zu]; done) | (simp [zu]; omega)) (by first | omega | (simp only [il_2, il_3, il_7, il_9, il_18, il_19, il_36, il_37]; omega) | (simp [zu]; done) | (simp [zu]; omega)) (by first | omega | (simp only [il_2, il_3, il_7, il_9, il_18, il_19, il_36, il_37]; omega) | (simp [zu]; done) | (simp [zu]; omega)) ⟨_, rfl, by first | exact k0⟩
theorem kX4_thing {d : Nat} {Z Y : Nat → Nat → Int} {S : Nat × (Nat → Int32)} {K : Int → jj_Hp → Prop} {w q : Int} (hw : -2147483648 ≤ w ∧ w ≤ 2147483647) (hq : -2147483648 ≤ q ∧ q ≤ 2147483647) (hn : 0 ≤ Z 1 0 ∧ Z 1 0 ≤ 4) (k0 : ¬ (-99 ≤ w ∧ w ≤ 99) ∨ ¬ (0 ≤ q ∧ q ≤ 9) → K (-1000001) (jj_h Z Y S)) (k1 : (-99 ≤ w ∧ w ≤ 99) ∧ (0 ≤ q ∧ q ≤ 9) ∧ Z 1 0 = 4 → K (-1000002) (jj_h Z Y S)) (k2 : (-99 ≤ w ∧ w ≤ 99) ∧ (0 ≤ q ∧ q ≤ 9) ∧ Z 1 0 < 4 → K (Z 1 0) (jj_h (zu (zu (zu (zu (zu Z 0 5 0) 0 6 0) 2 ((Z 1 0).toNat) w) 3 ((Z 1 0).toNat) q) 1 0 ((Z 1 0) + 1)) Y S)) : jj_Ci (d + 1) mX4_thing [.ref 0, iv w, iv q] (jj_h Z Y S) K := by
  refine nX4_thing ?_
  refine bX4_thing_0  ?_
  refine kX4_isWorth (by first | omega | (simp only [il_2, il_3, il_7, il_9, il_18, il_19, il_36, il_37]; omega) | (simp [zu]; done) | (simp [zu]; omega)) (fun z0 => ?_) (fun z0 => ?_)
  · skip
    try (exfalso; omega)
    all_goals
      refine bX4_thing_4 (by first | omega | (simp only [il_2, il_3, il_7, il_9, il_18, il_19, il_36, il_37]; omega) | (simp [zu]; done) | (simp [zu]; omega)) (fun z4 => ?_) (fun z4 => ?_)
      · exfalso; omega
      · skip
        try (exfalso; omega)
        all_goals
          refine bX4_thing_7  ?_
          refine kX4_isCount (by first | omega | (simp only [il_2, il_3, il_7, il_9, il_18, il_19, il_36, il_37]; omega) | (simp [zu]; done) | (simp [zu]; omega)) (fun z7 => ?_) (fun z7 => ?_)
          · skip
            try (exfalso; omega)
            all_goals
              refine bX4_thing_11 (by first | omega | (simp only [il_2, il_3, il_7, il_9, il_18, il_19, il_36, il_37]; omega) | (simp [zu]; done) | (simp [zu]; omega)) (fun z11 => ?_) (fun z11 => ?_)
              · skip
                try (exfalso; omega)
                all_goals
                  refine bX4_thing_17 (by first | omega | (simp only [il_2, il_3, il_7, il_9, il_18, il_19, il_36, il_37]; omega) | (simp [zu]; done) | (simp [zu]; omega)) (fun z17 => ?_) (fun z17 => ?_)
                  · skip
                    try (exfalso; omega)
                    all_goals
                      refine bX4_thing_31  ?_
                      refine kX4_markChanged  ?_
                      refine bX4_thing_35  ?_
                      refine kX0_addThing (by first | omega | (simp only [il_2, il_3, il_7, il_9, il_18, il_19, il_36, il_37]; omega) | (simp [zu]; done) | (simp [zu]; omega)) ?_
                      exact bX4_thing_44  ⟨_, rfl, by first | exact k0 (by first | omega | (simp only [il_2, il_3, il_7, il_9, il_18, il_19, il_36, il_37]; omega) | (simp [zu]; done) | (simp [zu]; omega)) | exact k1 (by first | omega | (simp only [il_2, il_3, il_7, il_9, il_18, il_19, il_36, il_37]; omega) | (simp [zu]; done) | (simp [zu]; omega)) | exact k2 (by first | omega | (simp only [il_2, il_3, il_7, il_9, il_18, il_19, il_36, il_37]; omega) | (simp [zu]; done) | (simp [zu]; omega))⟩
                  · skip
                    try (exfalso; omega)
                    all_goals
                      exact bX4_thing_28  ⟨_, rfl, by first | exact k0 (by first | omega | (simp only [il_2, il_3, il_7, il_9, il_18, il_19, il_36, il_37]; omega) | (simp [zu]; done) | (simp [zu]; omega)) | exact k1 (by first | omega | (simp only [il_2, il_3, il_7, il_9, il_18, il_19, il_36, il_37]; omega) | (simp [zu]; done) | (simp [zu]; omega)) | exact k2 (by first | omega | (simp only [il_2, il_3, il_7, il_9, il_18, il_19, il_36, il_37]; omega) | (simp [zu]; done) | (simp [zu]; omega))⟩
              · exfalso; omega
          · skip
            try (exfalso; omega)
            all_goals
              refine bX4_thing_11 (by first | omega | (simp only [il_2, il_3, il_7, il_9, il_18, il_19, il_36, il_37]; omega) | (simp [zu]; done) | (simp [zu]; omega)) (fun z11 => ?_) (fun z11 => ?_)
              · exfalso; omega
              · skip
                try (exfalso; omega)
                all_goals
                  exact bX4_thing_14  ⟨_, rfl, by first | exact k0 (by first | omega | (simp only [il_2, il_3, il_7, il_9, il_18, il_19, il_36, il_37]; omega) | (simp [zu]; done) | (simp [zu]; omega)) | exact k1 (by first | omega | (simp only [il_2, il_3, il_7, il_9, il_18, il_19, il_36, il_37]; omega) | (simp [zu]; done) | (simp [zu]; omega)) | exact k2 (by first | omega | (simp only [il_2, il_3, il_7, il_9, il_18, il_19, il_36, il_37]; omega) | (simp [zu]; done) | (simp [zu]; omega))⟩
  · skip
    try (exfalso; omega)
    all_goals
      refine bX4_thing_4 (by first | omega | (simp only [il_2, il_3, il_7, il_9, il_18, il_19, il_36, il_37]; omega) | (simp [zu]; done) | (simp [zu]; omega)) (fun z4 => ?_) (fun z4 => ?_)
      · skip
        try (exfalso; omega)
        all_goals
          exact bX4_thing_14  ⟨_, rfl, by first | exact k0 (by first | omega | (simp only [il_2, il_3, il_7, il_9, il_18, il_19, il_36, il_37]; omega) | (simp [zu]; done) | (simp [zu]; omega)) | exact k1 (by first | omega | (simp only [il_2, il_3, il_7, il_9, il_18, il_19, il_36, il_37]; omega) | (simp [zu]; done) | (simp [zu]; omega)) | exact k2 (by first | omega | (simp only [il_2, il_3, il_7, il_9, il_18, il_19, il_36, il_37]; omega) | (simp [zu]; done) | (simp [zu]; omega))⟩
      · exfalso; omega

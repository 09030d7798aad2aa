/-! RulePrices: what changes the book -/
theorem kX0_addRule {d : Nat} {Z Y : Nat → Nat → Int} {S : Nat × (Nat → Int32)} {K : Int → jj_Hp → Prop} {q l : Int} (hm : 0 ≤ Z 1 1 ∧ Z 1 1 < 6) (k0 : K (Z 1 1) (jj_h (zu (zu (zu (zu Z 4 ((Z 1 1).toNat) q) 7 ((Z 1 1).toNat) l) 8 ((Z 1 1).toNat) 1) 1 1 ((Z 1 1) + 1)) Y S)) : jj_Ci d mX0_addRule [.ref 1, iv q, iv l] (jj_h Z Y S) K := by
  refine nX0_addRule ?_
  exact bX0_addRule_0 (by first | omega | (simp only [il_2, il_3, il_7, il_9, il_18, il_19, il_36, il_37]; omega) | (simp [zu]; done) | (simp [zu]; omega)) (by first | omega | (simp only [il_2, il_3, il_7, il_9, il_18, il_19, il_36, il_37]; omega) | (simp [zu]; done) | (simp [zu]; omega)) (by first | omega | (simp only [il_2, il_3, il_7, il_9, il_18, il_19, il_36, il_37]; omega) | (simp [zu]; done) | (simp [zu]; omega)) (by first | omega | (simp only [il_2, il_3, il_7, il_9, il_18, il_19, il_36, il_37]; omega) | (simp [zu]; done) | (simp [zu]; omega)) (by first | omega | (simp only [il_2, il_3, il_7, il_9, il_18, il_19, il_36, il_37]; omega) | (simp [zu]; done) | (simp [zu]; omega)) (by first | omega | (simp only [il_2, il_3, il_7, il_9, il_18, il_19, il_36, il_37]; omega) | (simp [zu]; done) | (simp [zu]; omega)) ⟨_, rfl, by first | exact k0⟩
theorem kX0_pair {d : Nat} {Z Y : Nat → Nat → Int} {S : Nat × (Nat → Int32)} {K : jj_Hp → Prop} {i a b : Int} (hi : 0 ≤ i ∧ i < 6) (ha : 0 ≤ a ∧ a < 4) (hb : 0 ≤ b ∧ b < 4) (hk : -2147483648 ≤ Z 4 i.toNat ∧ Z 4 i.toNat ≤ 2147483647) (k0 : ¬ Z 4 i.toNat = 1 → K (jj_h (zu (zu Z 5 (i.toNat) a) 6 (i.toNat) b) Y S)) (k1 : Z 4 i.toNat = 1 → K (jj_h (zu (zu (zu (zu Z 5 (i.toNat) a) 6 (i.toNat) b) 9 (((i * 4) + a).toNat) (((zu (zu Z 5 (i.toNat) a) 6 (i.toNat) b) 9 (((i * 4) + a).toNat)) + 1)) 9 (((i * 4) + b).toNat) (((zu (zu (zu Z 5 (i.toNat) a) 6 (i.toNat) b) 9 (((i * 4) + a).toNat) (((zu (zu Z 5 (i.toNat) a) 6 (i.toNat) b) 9 (((i * 4) + a).toNat)) + 1)) 9 (((i * 4) + b).toNat)) - 1)) Y S)) : jj_Cv d mX0_pair [.ref 1, iv i, iv a, iv b] (jj_h Z Y S) K := by
  refine nX0_pair ?_
  refine bX0_pair_0 (by first | omega | (simp only [il_2, il_3, il_7, il_9, il_18, il_19, il_36, il_37]; omega) | (simp [zu]; done) | (simp [zu]; omega)) (by first | omega | (simp only [il_2, il_3, il_7, il_9, il_18, il_19, il_36, il_37]; omega) | (simp [zu]; done) | (simp [zu]; omega)) (by first | omega | (simp only [il_2, il_3, il_7, il_9, il_18, il_19, il_36, il_37]; omega) | (simp [zu]; done) | (simp [zu]; omega)) (by first | omega | (simp only [il_2, il_3, il_7, il_9, il_18, il_19, il_36, il_37]; omega) | (simp [zu]; done) | (simp [zu]; omega)) (by first | omega | (simp only [il_2, il_3, il_7, il_9, il_18, il_19, il_36, il_37]; omega) | (simp [zu]; done) | (simp [zu]; omega)) (by first | omega | (simp only [il_2, il_3, il_7, il_9, il_18, il_19, il_36, il_37]; omega) | (simp [zu]; done) | (simp [zu]; omega)) (by first | omega | (simp only [il_2, il_3, il_7, il_9, il_18, il_19, il_36, il_37]; omega) | (simp [zu]; done) | (simp [zu]; omega)) (fun z0 => ?_) (fun z0 => ?_)
  · skip
    try (exfalso; omega)
    all_goals
      exact bX0_pair_52  ⟨rfl, by first | exact k0 (by first | omega | (simp only [il_2, il_3, il_7, il_9, il_18, il_19, il_36, il_37]; omega) | (simp [zu]; done) | (simp [zu]; omega)) | exact k1 (by first | omega | (simp only [il_2, il_3, il_7, il_9, il_18, il_19, il_36, il_37]; omega) | (simp [zu]; done) | (simp [zu]; omega))⟩
  · skip
    try (exfalso; omega)
    all_goals
      exact bX0_pair_24 (by first | omega | (simp only [il_2, il_3, il_7, il_9, il_18, il_19, il_36, il_37]; omega) | (simp [zu]; done) | (simp [zu]; omega)) (by first | omega | (simp only [il_2, il_3, il_7, il_9, il_18, il_19, il_36, il_37]; omega) | (simp [zu]; done) | (simp [zu]; omega)) (by first | omega | (simp only [il_2, il_3, il_7, il_9, il_18, il_19, il_36, il_37]; omega) | (simp [zu]; done) | (simp [zu]; omega)) (by first | omega | (simp only [il_2, il_3, il_7, il_9, il_18, il_19, il_36, il_37]; omega) | (simp [zu]; done) | (simp [zu]; omega)) (by first | omega | (simp only [il_2, il_3, il_7, il_9, il_18, il_19, il_36, il_37]; omega) | (simp [zu]; done) | (simp [zu]; omega)) (by first | omega | (simp only [il_2, il_3, il_7, il_9, il_18, il_19, il_36, il_37]; omega) | (simp [zu]; done) | (simp [zu]; omega)) (by first | omega | (simp only [il_2, il_3, il_7, il_9, il_18, il_19, il_36, il_37]; omega) | (simp [zu]; done) | (simp [zu]; omega)) (by first | omega | (simp only [il_2, il_3, il_7, il_9, il_18, il_19, il_36, il_37]; omega) | (simp [zu]; done) | (simp [zu]; omega)) ⟨rfl, by first | exact k0 (by first | omega | (simp only [il_2, il_3, il_7, il_9, il_18, il_19, il_36, il_37]; omega) | (simp [zu]; done) | (simp [zu]; omega)) | exact k1 (by first | omega | (simp only [il_2, il_3, il_7, il_9, il_18, il_19, il_36, il_37]; omega) | (simp [zu]; done) | (simp [zu]; omega))⟩
theorem kX4_rule {d : Nat} {Z Y : Nat → Nat → Int} {S : Nat × (Nat → Int32)} {K : Int → jj_Hp → Prop} {q a b l : Int} (hq : -2147483648 ≤ q ∧ q ≤ 2147483647) (ha : -2147483648 ≤ a ∧ a ≤ 2147483647) (hb : -2147483648 ≤ b ∧ b ≤ 2147483647) (hl : -2147483648 ≤ l ∧ l ≤ 2147483647) (hn : 0 ≤ Z 1 0 ∧ Z 1 0 ≤ 4) (hm : 0 ≤ Z 1 1 ∧ Z 1 1 ≤ 6) (k0 : ¬ ((0 ≤ q ∧ q ≤ 2) ∧ (0 ≤ l ∧ ((q = 0 ∧ l ≤ 999) ∨ (¬ q = 0 ∧ l ≤ 9)))) ∨ (¬ q = 0 ∧ ¬ ((0 ≤ a ∧ a < Z 1 0) ∧ (0 ≤ b ∧ b < Z 1 0))) → K (-1000001) (jj_h Z Y S)) (k1 : ((0 ≤ q ∧ q ≤ 2) ∧ (0 ≤ l ∧ ((q = 0 ∧ l ≤ 999) ∨ (¬ q = 0 ∧ l ≤ 9)))) ∧ (q = 0 ∨ ((0 ≤ a ∧ a < Z 1 0) ∧ (0 ≤ b ∧ b < Z 1 0))) ∧ Z 1 1 = 6 → K (-1000002) (jj_h Z Y S)) (k2 : ((0 ≤ q ∧ q ≤ 2) ∧ (0 ≤ l ∧ ((q = 0 ∧ l ≤ 999) ∨ (¬ q = 0 ∧ l ≤ 9)))) ∧ q = 0 ∧ Z 1 1 < 6 → K (Z 1 1) (jj_h (zu (zu (zu (zu (zu (zu Z 0 5 0) 0 6 0) 4 ((Z 1 1).toNat) q) 7 ((Z 1 1).toNat) l) 8 ((Z 1 1).toNat) 1) 1 1 ((Z 1 1) + 1)) Y S)) (k3 : ((0 ≤ q ∧ q ≤ 2) ∧ (0 ≤ l ∧ ((q = 0 ∧ l ≤ 999) ∨ (¬ q = 0 ∧ l ≤ 9)))) ∧ q = 1 ∧ ((0 ≤ a ∧ a < Z 1 0) ∧ (0 ≤ b ∧ b < Z 1 0)) ∧ Z 1 1 < 6 → K (Z 1 1) (jj_h (zu (zu (zu (zu (zu (zu (zu (zu (zu (zu Z 0 5 0) 0 6 0) 4 ((Z 1 1).toNat) q) 7 ((Z 1 1).toNat) l) 8 ((Z 1 1).toNat) 1) 1 1 ((Z 1 1) + 1)) 5 ((Z 1 1).toNat) a) 6 ((Z 1 1).toNat) b) 9 ((((Z 1 1) * 4) + a).toNat) (((zu (zu (zu (zu (zu (zu (zu (zu Z 0 5 0) 0 6 0) 4 ((Z 1 1).toNat) q) 7 ((Z 1 1).toNat) l) 8 ((Z 1 1).toNat) 1) 1 1 ((Z 1 1) + 1)) 5 ((Z 1 1).toNat) a) 6 ((Z 1 1).toNat) b) 9 ((((Z 1 1) * 4) + a).toNat)) + 1)) 9 ((((Z 1 1) * 4) + b).toNat) (((zu (zu (zu (zu (zu (zu (zu (zu (zu Z 0 5 0) 0 6 0) 4 ((Z 1 1).toNat) q) 7 ((Z 1 1).toNat) l) 8 ((Z 1 1).toNat) 1) 1 1 ((Z 1 1) + 1)) 5 ((Z 1 1).toNat) a) 6 ((Z 1 1).toNat) b) 9 ((((Z 1 1) * 4) + a).toNat) (((zu (zu (zu (zu (zu (zu (zu (zu Z 0 5 0) 0 6 0) 4 ((Z 1 1).toNat) q) 7 ((Z 1 1).toNat) l) 8 ((Z 1 1).toNat) 1) 1 1 ((Z 1 1) + 1)) 5 ((Z 1 1).toNat) a) 6 ((Z 1 1).toNat) b) 9 ((((Z 1 1) * 4) + a).toNat)) + 1)) 9 ((((Z 1 1) * 4) + b).toNat)) - 1)) Y S)) (k4 : ((0 ≤ q ∧ q ≤ 2) ∧ (0 ≤ l ∧ ((q = 0 ∧ l ≤ 999) ∨ (¬ q = 0 ∧ l ≤ 9)))) ∧ q = 2 ∧ ((0 ≤ a ∧ a < Z 1 0) ∧ (0 ≤ b ∧ b < Z 1 0)) ∧ Z 1 1 < 6 → K (Z 1 1) (jj_h (zu (zu (zu (zu (zu (zu (zu (zu Z 0 5 0) 0 6 0) 4 ((Z 1 1).toNat) q) 7 ((Z 1 1).toNat) l) 8 ((Z 1 1).toNat) 1) 1 1 ((Z 1 1) + 1)) 5 ((Z 1 1).toNat) a) 6 ((Z 1 1).toNat) b) Y S)) : jj_Ci (d + 1) mX4_rule [.ref 0, iv q, iv a, iv b, iv l] (jj_h Z Y S) K := by
  refine nX4_rule ?_
  refine bX4_rule_0 (by first | omega | (simp only [il_2, il_3, il_7, il_9, il_18, il_19, il_36, il_37]; omega) | (simp [zu]; done) | (simp [zu]; omega)) (fun z0 => ?_) (fun z0 => ?_)
  · try simp [zu] at z0
    try (exfalso; omega)
    all_goals
      exact bX4_rule_19  ⟨_, rfl, by first | exact k0 (by first | omega | (simp only [il_2, il_3, il_7, il_9, il_18, il_19, il_36, il_37]; omega) | (simp [zu]; done) | (simp [zu]; omega)) | exact k1 (by first | omega | (simp only [il_2, il_3, il_7, il_9, il_18, il_19, il_36, il_37]; omega) | (simp [zu]; done) | (simp [zu]; omega)) | exact k2 (by first | omega | (simp only [il_2, il_3, il_7, il_9, il_18, il_19, il_36, il_37]; omega) | (simp [zu]; done) | (simp [zu]; omega)) | exact k3 (by first | omega | (simp only [il_2, il_3, il_7, il_9, il_18, il_19, il_36, il_37]; omega) | (simp [zu]; done) | (simp [zu]; omega)) | exact k4 (by first | omega | (simp only [il_2, il_3, il_7, il_9, il_18, il_19, il_36, il_37]; omega) | (simp [zu]; done) | (simp [zu]; omega))⟩
  · try simp [zu] at z0
    try (exfalso; omega)
    all_goals
      refine bX4_rule_4 (by first | omega | (simp only [il_2, il_3, il_7, il_9, il_18, il_19, il_36, il_37]; omega) | (simp [zu]; done) | (simp [zu]; omega)) (fun z4 => ?_) (fun z4 => ?_)
      · try simp [zu] at z4
        try (exfalso; omega)
        all_goals
          exact bX4_rule_19  ⟨_, rfl, by first | exact k0 (by first | omega | (simp only [il_2, il_3, il_7, il_9, il_18, il_19, il_36, il_37]; omega) | (simp [zu]; done) | (simp [zu]; omega)) | exact k1 (by first | omega | (simp only [il_2, il_3, il_7, il_9, il_18, il_19, il_36, il_37]; omega) | (simp [zu]; done) | (simp [zu]; omega)) | exact k2 (by first | omega | (simp only [il_2, il_3, il_7, il_9, il_18, il_19, il_36, il_37]; omega) | (simp [zu]; done) | (simp [zu]; omega)) | exact k3 (by first | omega | (simp only [il_2, il_3, il_7, il_9, il_18, il_19, il_36, il_37]; omega) | (simp [zu]; done) | (simp [zu]; omega)) | exact k4 (by first | omega | (simp only [il_2, il_3, il_7, il_9, il_18, il_19, il_36, il_37]; omega) | (simp [zu]; done) | (simp [zu]; omega))⟩
      · try simp [zu] at z4
        try (exfalso; omega)
        all_goals
          refine bX4_rule_9 (by first | omega | (simp only [il_2, il_3, il_7, il_9, il_18, il_19, il_36, il_37]; omega) | (simp [zu]; done) | (simp [zu]; omega)) ?_
          refine kX4_isLimit (by first | omega | (simp only [il_2, il_3, il_7, il_9, il_18, il_19, il_36, il_37]; omega) | (simp [zu]; done) | (simp [zu]; omega)) (by first | omega | (simp only [il_2, il_3, il_7, il_9, il_18, il_19, il_36, il_37]; omega) | (simp [zu]; done) | (simp [zu]; omega)) (fun z9 => ?_) (fun z9 => ?_)
          · try simp [zu] at z9
            try (exfalso; omega)
            all_goals
              refine bX4_rule_16 (by first | omega | (simp only [il_2, il_3, il_7, il_9, il_18, il_19, il_36, il_37]; omega) | (simp [zu]; done) | (simp [zu]; omega)) (fun z16 => ?_) (fun z16 => ?_)
              · try simp [zu] at z16
                try (exfalso; omega)
                all_goals
                  refine bX4_rule_22 (by first | omega | (simp only [il_2, il_3, il_7, il_9, il_18, il_19, il_36, il_37]; omega) | (simp [zu]; done) | (simp [zu]; omega)) (fun z22 => ?_) (fun z22 => ?_)
                  · try simp [zu] at z22
                    try (exfalso; omega)
                    all_goals
                      refine bX4_rule_45 (by first | omega | (simp only [il_2, il_3, il_7, il_9, il_18, il_19, il_36, il_37]; omega) | (simp [zu]; done) | (simp [zu]; omega)) (fun z45 => ?_) (fun z45 => ?_)
                      · try simp [zu] at z45
                        try (exfalso; omega)
                        all_goals
                          refine bX4_rule_60  ?_
                          refine kX4_markChanged  ?_
                          refine bX4_rule_64  ?_
                          refine kX0_addRule (by first | omega | (simp only [il_2, il_3, il_7, il_9, il_18, il_19, il_36, il_37]; omega) | (simp [zu]; done) | (simp [zu]; omega)) ?_
                          refine bX4_rule_74 (by first | omega | (simp only [il_2, il_3, il_7, il_9, il_18, il_19, il_36, il_37]; omega) | (simp [zu]; done) | (simp [zu]; omega)) (fun z74 => ?_) (fun z74 => ?_)
                          · try simp [zu] at z74
                            try (exfalso; omega)
                            all_goals
                              exact bX4_rule_91  ⟨_, rfl, by first | exact k0 (by first | omega | (simp only [il_2, il_3, il_7, il_9, il_18, il_19, il_36, il_37]; omega) | (simp [zu]; done) | (simp [zu]; omega)) | exact k1 (by first | omega | (simp only [il_2, il_3, il_7, il_9, il_18, il_19, il_36, il_37]; omega) | (simp [zu]; done) | (simp [zu]; omega)) | exact k2 (by first | omega | (simp only [il_2, il_3, il_7, il_9, il_18, il_19, il_36, il_37]; omega) | (simp [zu]; done) | (simp [zu]; omega)) | exact k3 (by first | omega | (simp only [il_2, il_3, il_7, il_9, il_18, il_19, il_36, il_37]; omega) | (simp [zu]; done) | (simp [zu]; omega)) | exact k4 (by first | omega | (simp only [il_2, il_3, il_7, il_9, il_18, il_19, il_36, il_37]; omega) | (simp [zu]; done) | (simp [zu]; omega))⟩
                          · try simp [zu] at z74
                            try (exfalso; omega)
                            all_goals
                              refine bX4_rule_80  ?_
                              refine kX0_pair (by first | omega | (simp only [il_2, il_3, il_7, il_9, il_18, il_19, il_36, il_37]; omega) | (simp [zu]; done) | (simp [zu]; omega)) (by first | omega | (simp only [il_2, il_3, il_7, il_9, il_18, il_19, il_36, il_37]; omega) | (simp [zu]; done) | (simp [zu]; omega)) (by first | omega | (simp only [il_2, il_3, il_7, il_9, il_18, il_19, il_36, il_37]; omega) | (simp [zu]; done) | (simp [zu]; omega)) (by first | omega | (simp only [il_2, il_3, il_7, il_9, il_18, il_19, il_36, il_37]; omega) | (simp [zu]; done) | (simp [zu]; omega)) (fun z80 => ?_) (fun z80 => ?_)
                              · try simp [zu] at z80
                                try (exfalso; omega)
                                all_goals
                                  exact bX4_rule_91  ⟨_, rfl, by first | exact k0 (by first | omega | (simp only [il_2, il_3, il_7, il_9, il_18, il_19, il_36, il_37]; omega) | (simp [zu]; done) | (simp [zu]; omega)) | exact k1 (by first | omega | (simp only [il_2, il_3, il_7, il_9, il_18, il_19, il_36, il_37]; omega) | (simp [zu]; done) | (simp [zu]; omega)) | exact k2 (by first | omega | (simp only [il_2, il_3, il_7, il_9, il_18, il_19, il_36, il_37]; omega) | (simp [zu]; done) | (simp [zu]; omega)) | exact k3 (by first | omega | (simp only [il_2, il_3, il_7, il_9, il_18, il_19, il_36, il_37]; omega) | (simp [zu]; done) | (simp [zu]; omega)) | exact k4 (by first | omega | (simp only [il_2, il_3, il_7, il_9, il_18, il_19, il_36, il_37]; omega) | (simp [zu]; done) | (simp [zu]; omega))⟩
                              · try simp [zu] at z80
                                try (exfalso; omega)
                                all_goals
                                  exact bX4_rule_91  ⟨_, rfl, by first | exact k0 (by first | omega | (simp only [il_2, il_3, il_7, il_9, il_18, il_19, il_36, il_37]; omega) | (simp [zu]; done) | (simp [zu]; omega)) | exact k1 (by first | omega | (simp only [il_2, il_3, il_7, il_9, il_18, il_19, il_36, il_37]; omega) | (simp [zu]; done) | (simp [zu]; omega)) | exact k2 (by first | omega | (simp only [il_2, il_3, il_7, il_9, il_18, il_19, il_36, il_37]; omega) | (simp [zu]; done) | (simp [zu]; omega)) | exact k3 (by first | omega | (simp only [il_2, il_3, il_7, il_9, il_18, il_19, il_36, il_37]; omega) | (simp [zu]; done) | (simp [zu]; omega)) | exact k4 (by first | omega | (simp only [il_2, il_3, il_7, il_9, il_18, il_19, il_36, il_37]; omega) | (simp [zu]; done) | (simp [zu]; omega))⟩
                      · try simp [zu] at z45
                        try (exfalso; omega)
                        all_goals
                          exact bX4_rule_57  ⟨_, rfl, by first | exact k0 (by first | omega | (simp only [il_2, il_3, il_7, il_9, il_18, il_19, il_36, il_37]; omega) | (simp [zu]; done) | (simp [zu]; omega)) | exact k1 (by first | omega | (simp only [il_2, il_3, il_7, il_9, il_18, il_19, il_36, il_37]; omega) | (simp [zu]; done) | (simp [zu]; omega)) | exact k2 (by first | omega | (simp only [il_2, il_3, il_7, il_9, il_18, il_19, il_36, il_37]; omega) | (simp [zu]; done) | (simp [zu]; omega)) | exact k3 (by first | omega | (simp only [il_2, il_3, il_7, il_9, il_18, il_19, il_36, il_37]; omega) | (simp [zu]; done) | (simp [zu]; omega)) | exact k4 (by first | omega | (simp only [il_2, il_3, il_7, il_9, il_18, il_19, il_36, il_37]; omega) | (simp [zu]; done) | (simp [zu]; omega))⟩
                  · try simp [zu] at z22
                    try (exfalso; omega)
                    all_goals
                      refine bX4_rule_26  ?_
                      refine kX4_isThing (by first | omega | (simp only [il_2, il_3, il_7, il_9, il_18, il_19, il_36, il_37]; omega) | (simp [zu]; done) | (simp [zu]; omega)) (by first | omega | (simp only [il_2, il_3, il_7, il_9, il_18, il_19, il_36, il_37]; omega) | (simp [zu]; done) | (simp [zu]; omega)) (fun z26 => ?_) (fun z26 => ?_)
                      · try simp [zu] at z26
                        try (exfalso; omega)
                        all_goals
                          refine bX4_rule_31 (by first | omega | (simp only [il_2, il_3, il_7, il_9, il_18, il_19, il_36, il_37]; omega) | (simp [zu]; done) | (simp [zu]; omega)) (fun z31 => ?_) (fun z31 => ?_)
                          · exfalso; omega
                          · try simp [zu] at z31
                            try (exfalso; omega)
                            all_goals
                              refine bX4_rule_34  ?_
                              refine kX4_isThing (by first | omega | (simp only [il_2, il_3, il_7, il_9, il_18, il_19, il_36, il_37]; omega) | (simp [zu]; done) | (simp [zu]; omega)) (by first | omega | (simp only [il_2, il_3, il_7, il_9, il_18, il_19, il_36, il_37]; omega) | (simp [zu]; done) | (simp [zu]; omega)) (fun z34 => ?_) (fun z34 => ?_)
                              · try simp [zu] at z34
                                try (exfalso; omega)
                                all_goals
                                  refine bX4_rule_39 (by first | omega | (simp only [il_2, il_3, il_7, il_9, il_18, il_19, il_36, il_37]; omega) | (simp [zu]; done) | (simp [zu]; omega)) (fun z39 => ?_) (fun z39 => ?_)
                                  · try simp [zu] at z39
                                    try (exfalso; omega)
                                    all_goals
                                      refine bX4_rule_45 (by first | omega | (simp only [il_2, il_3, il_7, il_9, il_18, il_19, il_36, il_37]; omega) | (simp [zu]; done) | (simp [zu]; omega)) (fun z45 => ?_) (fun z45 => ?_)
                                      · try simp [zu] at z45
                                        try (exfalso; omega)
                                        all_goals
                                          refine bX4_rule_60  ?_
                                          refine kX4_markChanged  ?_
                                          refine bX4_rule_64  ?_
                                          refine kX0_addRule (by first | omega | (simp only [il_2, il_3, il_7, il_9, il_18, il_19, il_36, il_37]; omega) | (simp [zu]; done) | (simp [zu]; omega)) ?_
                                          refine bX4_rule_74 (by first | omega | (simp only [il_2, il_3, il_7, il_9, il_18, il_19, il_36, il_37]; omega) | (simp [zu]; done) | (simp [zu]; omega)) (fun z74 => ?_) (fun z74 => ?_)
                                          · try simp [zu] at z74
                                            try (exfalso; omega)
                                            all_goals
                                              exact bX4_rule_91  ⟨_, rfl, by first | exact k0 (by first | omega | (simp only [il_2, il_3, il_7, il_9, il_18, il_19, il_36, il_37]; omega) | (simp [zu]; done) | (simp [zu]; omega)) | exact k1 (by first | omega | (simp only [il_2, il_3, il_7, il_9, il_18, il_19, il_36, il_37]; omega) | (simp [zu]; done) | (simp [zu]; omega)) | exact k2 (by first | omega | (simp only [il_2, il_3, il_7, il_9, il_18, il_19, il_36, il_37]; omega) | (simp [zu]; done) | (simp [zu]; omega)) | exact k3 (by first | omega | (simp only [il_2, il_3, il_7, il_9, il_18, il_19, il_36, il_37]; omega) | (simp [zu]; done) | (simp [zu]; omega)) | exact k4 (by first | omega | (simp only [il_2, il_3, il_7, il_9, il_18, il_19, il_36, il_37]; omega) | (simp [zu]; done) | (simp [zu]; omega))⟩
                                          · try simp [zu] at z74
                                            try (exfalso; omega)
                                            all_goals
                                              refine bX4_rule_80  ?_
                                              refine kX0_pair (by first | omega | (simp only [il_2, il_3, il_7, il_9, il_18, il_19, il_36, il_37]; omega) | (simp [zu]; done) | (simp [zu]; omega)) (by first | omega | (simp only [il_2, il_3, il_7, il_9, il_18, il_19, il_36, il_37]; omega) | (simp [zu]; done) | (simp [zu]; omega)) (by first | omega | (simp only [il_2, il_3, il_7, il_9, il_18, il_19, il_36, il_37]; omega) | (simp [zu]; done) | (simp [zu]; omega)) (by first | omega | (simp only [il_2, il_3, il_7, il_9, il_18, il_19, il_36, il_37]; omega) | (simp [zu]; done) | (simp [zu]; omega)) (fun z80 => ?_) (fun z80 => ?_)
                                              · try simp [zu] at z80
                                                try (exfalso; omega)
                                                all_goals
                                                  exact bX4_rule_91  ⟨_, rfl, by first | exact k0 (by first | omega | (simp only [il_2, il_3, il_7, il_9, il_18, il_19, il_36, il_37]; omega) | (simp [zu]; done) | (simp [zu]; omega)) | exact k1 (by first | omega | (simp only [il_2, il_3, il_7, il_9, il_18, il_19, il_36, il_37]; omega) | (simp [zu]; done) | (simp [zu]; omega)) | exact k2 (by first | omega | (simp only [il_2, il_3, il_7, il_9, il_18, il_19, il_36, il_37]; omega) | (simp [zu]; done) | (simp [zu]; omega)) | exact k3 (by first | omega | (simp only [il_2, il_3, il_7, il_9, il_18, il_19, il_36, il_37]; omega) | (simp [zu]; done) | (simp [zu]; omega)) | exact k4 (by first | omega | (simp only [il_2, il_3, il_7, il_9, il_18, il_19, il_36, il_37]; omega) | (simp [zu]; done) | (simp [zu]; omega))⟩
                                              · try simp [zu] at z80
                                                try (exfalso; omega)
                                                all_goals
                                                  exact bX4_rule_91  ⟨_, rfl, by first | exact k0 (by first | omega | (simp only [il_2, il_3, il_7, il_9, il_18, il_19, il_36, il_37]; omega) | (simp [zu]; done) | (simp [zu]; omega)) | exact k1 (by first | omega | (simp only [il_2, il_3, il_7, il_9, il_18, il_19, il_36, il_37]; omega) | (simp [zu]; done) | (simp [zu]; omega)) | exact k2 (by first | omega | (simp only [il_2, il_3, il_7, il_9, il_18, il_19, il_36, il_37]; omega) | (simp [zu]; done) | (simp [zu]; omega)) | exact k3 (by first | omega | (simp only [il_2, il_3, il_7, il_9, il_18, il_19, il_36, il_37]; omega) | (simp [zu]; done) | (simp [zu]; omega)) | exact k4 (by first | omega | (simp only [il_2, il_3, il_7, il_9, il_18, il_19, il_36, il_37]; omega) | (simp [zu]; done) | (simp [zu]; omega))⟩
                                      · try simp [zu] at z45
                                        try (exfalso; omega)
                                        all_goals
                                          exact bX4_rule_57  ⟨_, rfl, by first | exact k0 (by first | omega | (simp only [il_2, il_3, il_7, il_9, il_18, il_19, il_36, il_37]; omega) | (simp [zu]; done) | (simp [zu]; omega)) | exact k1 (by first | omega | (simp only [il_2, il_3, il_7, il_9, il_18, il_19, il_36, il_37]; omega) | (simp [zu]; done) | (simp [zu]; omega)) | exact k2 (by first | omega | (simp only [il_2, il_3, il_7, il_9, il_18, il_19, il_36, il_37]; omega) | (simp [zu]; done) | (simp [zu]; omega)) | exact k3 (by first | omega | (simp only [il_2, il_3, il_7, il_9, il_18, il_19, il_36, il_37]; omega) | (simp [zu]; done) | (simp [zu]; omega)) | exact k4 (by first | omega | (simp only [il_2, il_3, il_7, il_9, il_18, il_19, il_36, il_37]; omega) | (simp [zu]; done) | (simp [zu]; omega))⟩
                                  · exfalso; omega
                              · try simp [zu] at z34
                                try (exfalso; omega)
                                all_goals
                                  refine bX4_rule_39 (by first | omega | (simp only [il_2, il_3, il_7, il_9, il_18, il_19, il_36, il_37]; omega) | (simp [zu]; done) | (simp [zu]; omega)) (fun z39 => ?_) (fun z39 => ?_)
                                  · exfalso; omega
                                  · try simp [zu] at z39
                                    try (exfalso; omega)
                                    all_goals
                                      exact bX4_rule_42  ⟨_, rfl, by first | exact k0 (by first | omega | (simp only [il_2, il_3, il_7, il_9, il_18, il_19, il_36, il_37]; omega) | (simp [zu]; done) | (simp [zu]; omega)) | exact k1 (by first | omega | (simp only [il_2, il_3, il_7, il_9, il_18, il_19, il_36, il_37]; omega) | (simp [zu]; done) | (simp [zu]; omega)) | exact k2 (by first | omega | (simp only [il_2, il_3, il_7, il_9, il_18, il_19, il_36, il_37]; omega) | (simp [zu]; done) | (simp [zu]; omega)) | exact k3 (by first | omega | (simp only [il_2, il_3, il_7, il_9, il_18, il_19, il_36, il_37]; omega) | (simp [zu]; done) | (simp [zu]; omega)) | exact k4 (by first | omega | (simp only [il_2, il_3, il_7, il_9, il_18, il_19, il_36, il_37]; omega) | (simp [zu]; done) | (simp [zu]; omega))⟩
                      · try simp [zu] at z26
                        try (exfalso; omega)
                        all_goals
                          refine bX4_rule_31 (by first | omega | (simp only [il_2, il_3, il_7, il_9, il_18, il_19, il_36, il_37]; omega) | (simp [zu]; done) | (simp [zu]; omega)) (fun z31 => ?_) (fun z31 => ?_)
                          · try simp [zu] at z31
                            try (exfalso; omega)
                            all_goals
                              exact bX4_rule_42  ⟨_, rfl, by first | exact k0 (by first | omega | (simp only [il_2, il_3, il_7, il_9, il_18, il_19, il_36, il_37]; omega) | (simp [zu]; done) | (simp [zu]; omega)) | exact k1 (by first | omega | (simp only [il_2, il_3, il_7, il_9, il_18, il_19, il_36, il_37]; omega) | (simp [zu]; done) | (simp [zu]; omega)) | exact k2 (by first | omega | (simp only [il_2, il_3, il_7, il_9, il_18, il_19, il_36, il_37]; omega) | (simp [zu]; done) | (simp [zu]; omega)) | exact k3 (by first | omega | (simp only [il_2, il_3, il_7, il_9, il_18, il_19, il_36, il_37]; omega) | (simp [zu]; done) | (simp [zu]; omega)) | exact k4 (by first | omega | (simp only [il_2, il_3, il_7, il_9, il_18, il_19, il_36, il_37]; omega) | (simp [zu]; done) | (simp [zu]; omega))⟩
                          · exfalso; omega
              · exfalso; omega
          · try simp [zu] at z9
            try (exfalso; omega)
            all_goals
              refine bX4_rule_16 (by first | omega | (simp only [il_2, il_3, il_7, il_9, il_18, il_19, il_36, il_37]; omega) | (simp [zu]; done) | (simp [zu]; omega)) (fun z16 => ?_) (fun z16 => ?_)
              · exfalso; omega
              · try simp [zu] at z16
                try (exfalso; omega)
                all_goals
                  exact bX4_rule_19  ⟨_, rfl, by first | exact k0 (by first | omega | (simp only [il_2, il_3, il_7, il_9, il_18, il_19, il_36, il_37]; omega) | (simp [zu]; done) | (simp [zu]; omega)) | exact k1 (by first | omega | (simp only [il_2, il_3, il_7, il_9, il_18, il_19, il_36, il_37]; omega) | (simp [zu]; done) | (simp [zu]; omega)) | exact k2 (by first | omega | (simp only [il_2, il_3, il_7, il_9, il_18, il_19, il_36, il_37]; omega) | (simp [zu]; done) | (simp [zu]; omega)) | exact k3 (by first | omega | (simp only [il_2, il_3, il_7, il_9, il_18, il_19, il_36, il_37]; omega) | (simp [zu]; done) | (simp [zu]; omega)) | exact k4 (by first | omega | (simp only [il_2, il_3, il_7, il_9, il_18, il_19, il_36, il_37]; omega) | (simp [zu]; done) | (simp [zu]; omega))⟩
theorem kX4_amount {d : Nat} {Z Y : Nat → Nat → Int} {S : Nat × (Nat → Int32)} {K : Int → jj_Hp → Prop} {r t v : Int} (hr : -2147483648 ≤ r ∧ r ≤ 2147483647) (ht : -2147483648 ≤ t ∧ t ≤ 2147483647) (hv : -2147483648 ≤ v ∧ v ≤ 2147483647) (hn : 0 ≤ Z 1 0 ∧ Z 1 0 ≤ 4) (hm : 0 ≤ Z 1 1 ∧ Z 1 1 ≤ 6) (hk : 0 ≤ r ∧ r < Z 1 1 → -2147483648 ≤ Z 4 r.toNat ∧ Z 4 r.toNat ≤ 2147483647) (k0 : ¬ (0 ≤ r ∧ r < Z 1 1) ∨ ¬ Z 4 r.toNat = 0 ∨ ¬ (0 ≤ t ∧ t < Z 1 0) ∨ ¬ (-9 ≤ v ∧ v ≤ 9) → K (-1000001) (jj_h Z Y S)) (k1 : (0 ≤ r ∧ r < Z 1 1) ∧ Z 4 r.toNat = 0 ∧ (0 ≤ t ∧ t < Z 1 0) ∧ (-9 ≤ v ∧ v ≤ 9) → K (Z 9 (((r * 4) + t).toNat)) (jj_h (zu (zu (zu Z 9 (((r * 4) + t).toNat) v) 0 5 0) 0 6 0) Y S)) : jj_Ci (d + 2) mX4_amount [.ref 0, iv r, iv t, iv v] (jj_h Z Y S) K := by
  refine nX4_amount ?_
  refine bX4_amount_0  ?_
  refine kX4_isRule (by first | omega | (simp only [il_2, il_3, il_7, il_9, il_18, il_19, il_36, il_37]; omega) | (simp [zu]; done) | (simp [zu]; omega)) (by first | omega | (simp only [il_2, il_3, il_7, il_9, il_18, il_19, il_36, il_37]; omega) | (simp [zu]; done) | (simp [zu]; omega)) (fun z0 => ?_) (fun z0 => ?_)
  · skip
    try (exfalso; omega)
    all_goals
      refine bX4_amount_5 (by first | omega | (simp only [il_2, il_3, il_7, il_9, il_18, il_19, il_36, il_37]; omega) | (simp [zu]; done) | (simp [zu]; omega)) (fun z5 => ?_) (fun z5 => ?_)
      · exfalso; omega
      · skip
        try (exfalso; omega)
        all_goals
          refine bX4_amount_8 (by first | omega | (simp only [il_2, il_3, il_7, il_9, il_18, il_19, il_36, il_37]; omega) | (simp [zu]; done) | (simp [zu]; omega)) (by first | omega | (simp only [il_2, il_3, il_7, il_9, il_18, il_19, il_36, il_37]; omega) | (simp [zu]; done) | (simp [zu]; omega)) (by first | omega | (simp only [il_2, il_3, il_7, il_9, il_18, il_19, il_36, il_37]; omega) | (simp [zu]; done) | (simp [zu]; omega)) (fun z8 => ?_) (fun z8 => ?_)
          · skip
            try (exfalso; omega)
            all_goals
              exact bX4_amount_28  ⟨_, rfl, by first | exact k0 (by first | omega | (simp only [il_2, il_3, il_7, il_9, il_18, il_19, il_36, il_37]; omega) | (simp [zu]; done) | (simp [zu]; omega)) | exact k1 (by first | omega | (simp only [il_2, il_3, il_7, il_9, il_18, il_19, il_36, il_37]; omega) | (simp [zu]; done) | (simp [zu]; omega))⟩
          · skip
            try (exfalso; omega)
            all_goals
              refine bX4_amount_20  ?_
              refine kX4_isThing (by first | omega | (simp only [il_2, il_3, il_7, il_9, il_18, il_19, il_36, il_37]; omega) | (simp [zu]; done) | (simp [zu]; omega)) (by first | omega | (simp only [il_2, il_3, il_7, il_9, il_18, il_19, il_36, il_37]; omega) | (simp [zu]; done) | (simp [zu]; omega)) (fun z20 => ?_) (fun z20 => ?_)
              · skip
                try (exfalso; omega)
                all_goals
                  refine bX4_amount_25 (by first | omega | (simp only [il_2, il_3, il_7, il_9, il_18, il_19, il_36, il_37]; omega) | (simp [zu]; done) | (simp [zu]; omega)) (fun z25 => ?_) (fun z25 => ?_)
                  · skip
                    try (exfalso; omega)
                    all_goals
                      refine bX4_amount_31 (by first | omega | (simp only [il_2, il_3, il_7, il_9, il_18, il_19, il_36, il_37]; omega) | (simp [zu]; done) | (simp [zu]; omega)) (fun z31 => ?_) (fun z31 => ?_)
                      · skip
                        try (exfalso; omega)
                        all_goals
                          exact bX4_amount_43  ⟨_, rfl, by first | exact k0 (by first | omega | (simp only [il_2, il_3, il_7, il_9, il_18, il_19, il_36, il_37]; omega) | (simp [zu]; done) | (simp [zu]; omega)) | exact k1 (by first | omega | (simp only [il_2, il_3, il_7, il_9, il_18, il_19, il_36, il_37]; omega) | (simp [zu]; done) | (simp [zu]; omega))⟩
                      · skip
                        try (exfalso; omega)
                        all_goals
                          refine bX4_amount_37 (by first | omega | (simp only [il_2, il_3, il_7, il_9, il_18, il_19, il_36, il_37]; omega) | (simp [zu]; done) | (simp [zu]; omega)) (fun z37 => ?_) (fun z37 => ?_)
                          · skip
                            try (exfalso; omega)
                            all_goals
                              refine bX4_amount_46  ?_
                              refine kX4_replace (by first | omega | (simp only [il_2, il_3, il_7, il_9, il_18, il_19, il_36, il_37]; omega) | (simp [zu]; done) | (simp [zu]; omega)) (by first | omega | (simp only [il_2, il_3, il_7, il_9, il_18, il_19, il_36, il_37]; omega) | (simp [zu]; done) | (simp [zu]; omega)) ?_
                              exact bX4_amount_63  ⟨_, rfl, by first | exact k0 (by first | omega | (simp only [il_2, il_3, il_7, il_9, il_18, il_19, il_36, il_37]; omega) | (simp [zu]; done) | (simp [zu]; omega)) | exact k1 (by first | omega | (simp only [il_2, il_3, il_7, il_9, il_18, il_19, il_36, il_37]; omega) | (simp [zu]; done) | (simp [zu]; omega))⟩
                          · skip
                            try (exfalso; omega)
                            all_goals
                              exact bX4_amount_43  ⟨_, rfl, by first | exact k0 (by first | omega | (simp only [il_2, il_3, il_7, il_9, il_18, il_19, il_36, il_37]; omega) | (simp [zu]; done) | (simp [zu]; omega)) | exact k1 (by first | omega | (simp only [il_2, il_3, il_7, il_9, il_18, il_19, il_36, il_37]; omega) | (simp [zu]; done) | (simp [zu]; omega))⟩
                  · exfalso; omega
              · skip
                try (exfalso; omega)
                all_goals
                  refine bX4_amount_25 (by first | omega | (simp only [il_2, il_3, il_7, il_9, il_18, il_19, il_36, il_37]; omega) | (simp [zu]; done) | (simp [zu]; omega)) (fun z25 => ?_) (fun z25 => ?_)
                  · exfalso; omega
                  · skip
                    try (exfalso; omega)
                    all_goals
                      exact bX4_amount_28  ⟨_, rfl, by first | exact k0 (by first | omega | (simp only [il_2, il_3, il_7, il_9, il_18, il_19, il_36, il_37]; omega) | (simp [zu]; done) | (simp [zu]; omega)) | exact k1 (by first | omega | (simp only [il_2, il_3, il_7, il_9, il_18, il_19, il_36, il_37]; omega) | (simp [zu]; done) | (simp [zu]; omega))⟩
  · skip
    try (exfalso; omega)
    all_goals
      refine bX4_amount_5 (by first | omega | (simp only [il_2, il_3, il_7, il_9, il_18, il_19, il_36, il_37]; omega) | (simp [zu]; done) | (simp [zu]; omega)) (fun z5 => ?_) (fun z5 => ?_)
      · skip
        try (exfalso; omega)
        all_goals
          exact bX4_amount_28  ⟨_, rfl, by first | exact k0 (by first | omega | (simp only [il_2, il_3, il_7, il_9, il_18, il_19, il_36, il_37]; omega) | (simp [zu]; done) | (simp [zu]; omega)) | exact k1 (by first | omega | (simp only [il_2, il_3, il_7, il_9, il_18, il_19, il_36, il_37]; omega) | (simp [zu]; done) | (simp [zu]; omega))⟩
      · exfalso; omega
theorem kX4_on {d : Nat} {Z Y : Nat → Nat → Int} {S : Nat × (Nat → Int32)} {K : Int → jj_Hp → Prop} {r v : Int} (hr : -2147483648 ≤ r ∧ r ≤ 2147483647) (hv : v = 0 ∨ v = 1) (hm : 0 ≤ Z 1 1 ∧ Z 1 1 ≤ 6) (hk : 0 ≤ r ∧ r < Z 1 1 → Z 8 r.toNat = 0 ∨ Z 8 r.toNat = 1) (k0 : ¬ (0 ≤ r ∧ r < Z 1 1) → K (-1000001) (jj_h Z Y S)) (k1 : (0 ≤ r ∧ r < Z 1 1) ∧ Z 8 r.toNat = 0 → K 0 (jj_h (zu (zu (zu Z 8 (r.toNat) v) 0 5 0) 0 6 0) Y S)) (k2 : (0 ≤ r ∧ r < Z 1 1) ∧ Z 8 r.toNat = 1 → K 1 (jj_h (zu (zu (zu Z 8 (r.toNat) v) 0 5 0) 0 6 0) Y S)) : jj_Ci (d + 1) mX4_on [.ref 0, iv r, iv v] (jj_h Z Y S) K := by
  refine nX4_on ?_
  refine bX4_on_0  ?_
  refine kX4_isRule (by first | omega | (simp only [il_2, il_3, il_7, il_9, il_18, il_19, il_36, il_37]; omega) | (simp [zu]; done) | (simp [zu]; omega)) (by first | omega | (simp only [il_2, il_3, il_7, il_9, il_18, il_19, il_36, il_37]; omega) | (simp [zu]; done) | (simp [zu]; omega)) (fun z0 => ?_) (fun z0 => ?_)
  · skip
    try (exfalso; omega)
    all_goals
      refine bX4_on_5 (by first | omega | (simp only [il_2, il_3, il_7, il_9, il_18, il_19, il_36, il_37]; omega) | (simp [zu]; done) | (simp [zu]; omega)) (fun z5 => ?_) (fun z5 => ?_)
      · skip
        try (exfalso; omega)
        all_goals
          refine bX4_on_11 (by first | omega | (simp only [il_2, il_3, il_7, il_9, il_18, il_19, il_36, il_37]; omega) | (simp [zu]; done) | (simp [zu]; omega)) (by first | omega | (simp only [il_2, il_3, il_7, il_9, il_18, il_19, il_36, il_37]; omega) | (simp [zu]; done) | (simp [zu]; omega)) (by first | omega | (simp only [il_2, il_3, il_7, il_9, il_18, il_19, il_36, il_37]; omega) | (simp [zu]; done) | (simp [zu]; omega)) (by first | omega | (simp only [il_2, il_3, il_7, il_9, il_18, il_19, il_36, il_37]; omega) | (simp [zu]; done) | (simp [zu]; omega)) (by first | omega | (simp only [il_2, il_3, il_7, il_9, il_18, il_19, il_36, il_37]; omega) | (simp [zu]; done) | (simp [zu]; omega)) ?_
          refine kX4_markChanged  ?_
          refine bX4_on_35 (by first | omega | (simp only [il_2, il_3, il_7, il_9, il_18, il_19, il_36, il_37]; omega) | (simp [zu]; done) | (simp [zu]; omega)) (fun z35 => ?_) (fun z35 => ?_)
          · skip
            try (exfalso; omega)
            all_goals
              exact bX4_on_43  ⟨_, rfl, by first | exact k0 (by first | omega | (simp only [il_2, il_3, il_7, il_9, il_18, il_19, il_36, il_37]; omega) | (simp [zu]; done) | (simp [zu]; omega)) | exact k1 (by first | omega | (simp only [il_2, il_3, il_7, il_9, il_18, il_19, il_36, il_37]; omega) | (simp [zu]; done) | (simp [zu]; omega)) | exact k2 (by first | omega | (simp only [il_2, il_3, il_7, il_9, il_18, il_19, il_36, il_37]; omega) | (simp [zu]; done) | (simp [zu]; omega))⟩
          · skip
            try (exfalso; omega)
            all_goals
              exact bX4_on_39  ⟨_, rfl, by first | exact k0 (by first | omega | (simp only [il_2, il_3, il_7, il_9, il_18, il_19, il_36, il_37]; omega) | (simp [zu]; done) | (simp [zu]; omega)) | exact k1 (by first | omega | (simp only [il_2, il_3, il_7, il_9, il_18, il_19, il_36, il_37]; omega) | (simp [zu]; done) | (simp [zu]; omega)) | exact k2 (by first | omega | (simp only [il_2, il_3, il_7, il_9, il_18, il_19, il_36, il_37]; omega) | (simp [zu]; done) | (simp [zu]; omega))⟩
      · exfalso; omega
  · skip
    try (exfalso; omega)
    all_goals
      refine bX4_on_5 (by first | omega | (simp only [il_2, il_3, il_7, il_9, il_18, il_19, il_36, il_37]; omega) | (simp [zu]; done) | (simp [zu]; omega)) (fun z5 => ?_) (fun z5 => ?_)
      · exfalso; omega
      · skip
        try (exfalso; omega)
        all_goals
          exact bX4_on_8  ⟨_, rfl, by first | exact k0 (by first | omega | (simp only [il_2, il_3, il_7, il_9, il_18, il_19, il_36, il_37]; omega) | (simp [zu]; done) | (simp [zu]; omega)) | exact k1 (by first | omega | (simp only [il_2, il_3, il_7, il_9, il_18, il_19, il_36, il_37]; omega) | (simp [zu]; done) | (simp [zu]; omega)) | exact k2 (by first | omega | (simp only [il_2, il_3, il_7, il_9, il_18, il_19, il_36, il_37]; omega) | (simp [zu]; done) | (simp [zu]; omega))⟩
theorem kX4_set {d : Nat} {Z Y : Nat → Nat → Int} {S : Nat × (Nat → Int32)} {K : Int → jj_Hp → Prop} {w k v : Int} (hw : -2147483648 ≤ w ∧ w ≤ 2147483647) (hk : -2147483648 ≤ k ∧ k ≤ 2147483647) (hv : -2147483648 ≤ v ∧ v ≤ 2147483647) (hn : 0 ≤ Z 1 0 ∧ Z 1 0 ≤ 4) (hm : 0 ≤ Z 1 1 ∧ Z 1 1 ≤ 6) (hq : 0 ≤ k ∧ k < Z 1 1 → -2147483648 ≤ Z 4 k.toNat ∧ Z 4 k.toNat ≤ 2147483647) (k0 : ¬ (0 ≤ w ∧ w ≤ 2) ∨ (w = 0 ∧ ¬ ((0 ≤ k ∧ k < Z 1 1) ∧ (0 ≤ v ∧ ((Z 4 k.toNat = 0 ∧ v ≤ 999) ∨ (¬ Z 4 k.toNat = 0 ∧ v ≤ 9))))) ∨ (w = 1 ∧ ¬ ((0 ≤ k ∧ k < Z 1 0) ∧ (-99 ≤ v ∧ v ≤ 99))) ∨ (w = 2 ∧ ¬ ((0 ≤ k ∧ k < Z 1 0) ∧ (0 ≤ v ∧ v ≤ 9))) → K (-1000001) (jj_h Z Y S)) (k1 : w = 0 ∧ (0 ≤ k ∧ k < Z 1 1) ∧ (0 ≤ v ∧ ((Z 4 k.toNat = 0 ∧ v ≤ 999) ∨ (¬ Z 4 k.toNat = 0 ∧ v ≤ 9))) → K (Z 7 k.toNat) (jj_h (zu (zu (zu Z 7 (k.toNat) v) 0 5 0) 0 6 0) Y S)) (k2 : w = 1 ∧ (0 ≤ k ∧ k < Z 1 0) ∧ (-99 ≤ v ∧ v ≤ 99) → K (Z 2 k.toNat) (jj_h (zu (zu (zu Z 2 (k.toNat) v) 0 5 0) 0 6 0) Y S)) (k3 : w = 2 ∧ (0 ≤ k ∧ k < Z 1 0) ∧ (0 ≤ v ∧ v ≤ 9) → K (Z 3 k.toNat) (jj_h (zu (zu (zu Z 3 (k.toNat) v) 0 5 0) 0 6 0) Y S)) : jj_Ci (d + 2) mX4_set [.ref 0, iv w, iv k, iv v] (jj_h Z Y S) K := by
  refine nX4_set ?_
  refine bX4_set_0 (by first | omega | (simp only [il_2, il_3, il_7, il_9, il_18, il_19, il_36, il_37]; omega) | (simp [zu]; done) | (simp [zu]; omega)) (fun z0 => ?_) (fun z0 => ?_) (fun z0 => ?_) (fun z0 => ?_)
  · skip
    try (exfalso; omega)
    all_goals
      refine bX4_set_28  ?_
      refine kX4_isRule (by first | omega | (simp only [il_2, il_3, il_7, il_9, il_18, il_19, il_36, il_37]; omega) | (simp [zu]; done) | (simp [zu]; omega)) (by first | omega | (simp only [il_2, il_3, il_7, il_9, il_18, il_19, il_36, il_37]; omega) | (simp [zu]; done) | (simp [zu]; omega)) (fun z28 => ?_) (fun z28 => ?_)
      · skip
        try (exfalso; omega)
        all_goals
          refine bX4_set_33 (by first | omega | (simp only [il_2, il_3, il_7, il_9, il_18, il_19, il_36, il_37]; omega) | (simp [zu]; done) | (simp [zu]; omega)) (fun z33 => ?_) (fun z33 => ?_)
          · exfalso; omega
          · skip
            try (exfalso; omega)
            all_goals
              refine bX4_set_36 (by first | omega | (simp only [il_2, il_3, il_7, il_9, il_18, il_19, il_36, il_37]; omega) | (simp [zu]; done) | (simp [zu]; omega)) (by first | omega | (simp only [il_2, il_3, il_7, il_9, il_18, il_19, il_36, il_37]; omega) | (simp [zu]; done) | (simp [zu]; omega)) (by first | omega | (simp only [il_2, il_3, il_7, il_9, il_18, il_19, il_36, il_37]; omega) | (simp [zu]; done) | (simp [zu]; omega)) ?_
              refine kX4_isLimit (by first | omega | (simp only [il_2, il_3, il_7, il_9, il_18, il_19, il_36, il_37]; omega) | (simp [zu]; done) | (simp [zu]; omega)) (by first | omega | (simp only [il_2, il_3, il_7, il_9, il_18, il_19, il_36, il_37]; omega) | (simp [zu]; done) | (simp [zu]; omega)) (fun z36 => ?_) (fun z36 => ?_)
              · skip
                try (exfalso; omega)
                all_goals
                  refine bX4_set_50 (by first | omega | (simp only [il_2, il_3, il_7, il_9, il_18, il_19, il_36, il_37]; omega) | (simp [zu]; done) | (simp [zu]; omega)) (fun z50 => ?_) (fun z50 => ?_)
                  · exfalso; omega
                  · skip
                    try (exfalso; omega)
                    all_goals
                      refine bX4_set_53  ?_
                      refine kX4_replace (by first | omega | (simp only [il_2, il_3, il_7, il_9, il_18, il_19, il_36, il_37]; omega) | (simp [zu]; done) | (simp [zu]; omega)) (by first | omega | (simp only [il_2, il_3, il_7, il_9, il_18, il_19, il_36, il_37]; omega) | (simp [zu]; done) | (simp [zu]; omega)) ?_
                      exact bX4_set_66  ⟨_, rfl, by first | exact k0 (by first | omega | (simp only [il_2, il_3, il_7, il_9, il_18, il_19, il_36, il_37]; omega) | (simp [zu]; done) | (simp [zu]; omega)) | exact k1 (by first | omega | (simp only [il_2, il_3, il_7, il_9, il_18, il_19, il_36, il_37]; omega) | (simp [zu]; done) | (simp [zu]; omega)) | exact k2 (by first | omega | (simp only [il_2, il_3, il_7, il_9, il_18, il_19, il_36, il_37]; omega) | (simp [zu]; done) | (simp [zu]; omega)) | exact k3 (by first | omega | (simp only [il_2, il_3, il_7, il_9, il_18, il_19, il_36, il_37]; omega) | (simp [zu]; done) | (simp [zu]; omega))⟩
              · skip
                try (exfalso; omega)
                all_goals
                  refine bX4_set_50 (by first | omega | (simp only [il_2, il_3, il_7, il_9, il_18, il_19, il_36, il_37]; omega) | (simp [zu]; done) | (simp [zu]; omega)) (fun z50 => ?_) (fun z50 => ?_)
                  · skip
                    try (exfalso; omega)
                    all_goals
                      exact bX4_set_69  ⟨_, rfl, by first | exact k0 (by first | omega | (simp only [il_2, il_3, il_7, il_9, il_18, il_19, il_36, il_37]; omega) | (simp [zu]; done) | (simp [zu]; omega)) | exact k1 (by first | omega | (simp only [il_2, il_3, il_7, il_9, il_18, il_19, il_36, il_37]; omega) | (simp [zu]; done) | (simp [zu]; omega)) | exact k2 (by first | omega | (simp only [il_2, il_3, il_7, il_9, il_18, il_19, il_36, il_37]; omega) | (simp [zu]; done) | (simp [zu]; omega)) | exact k3 (by first | omega | (simp only [il_2, il_3, il_7, il_9, il_18, il_19, il_36, il_37]; omega) | (simp [zu]; done) | (simp [zu]; omega))⟩
                  · exfalso; omega
      · skip
        try (exfalso; omega)
        all_goals
          refine bX4_set_33 (by first | omega | (simp only [il_2, il_3, il_7, il_9, il_18, il_19, il_36, il_37]; omega) | (simp [zu]; done) | (simp [zu]; omega)) (fun z33 => ?_) (fun z33 => ?_)
          · skip
            try (exfalso; omega)
            all_goals
              exact bX4_set_69  ⟨_, rfl, by first | exact k0 (by first | omega | (simp only [il_2, il_3, il_7, il_9, il_18, il_19, il_36, il_37]; omega) | (simp [zu]; done) | (simp [zu]; omega)) | exact k1 (by first | omega | (simp only [il_2, il_3, il_7, il_9, il_18, il_19, il_36, il_37]; omega) | (simp [zu]; done) | (simp [zu]; omega)) | exact k2 (by first | omega | (simp only [il_2, il_3, il_7, il_9, il_18, il_19, il_36, il_37]; omega) | (simp [zu]; done) | (simp [zu]; omega)) | exact k3 (by first | omega | (simp only [il_2, il_3, il_7, il_9, il_18, il_19, il_36, il_37]; omega) | (simp [zu]; done) | (simp [zu]; omega))⟩
          · exfalso; omega
  · skip
    try (exfalso; omega)
    all_goals
      refine bX4_set_72  ?_
      refine kX4_isThing (by first | omega | (simp only [il_2, il_3, il_7, il_9, il_18, il_19, il_36, il_37]; omega) | (simp [zu]; done) | (simp [zu]; omega)) (by first | omega | (simp only [il_2, il_3, il_7, il_9, il_18, il_19, il_36, il_37]; omega) | (simp [zu]; done) | (simp [zu]; omega)) (fun z72 => ?_) (fun z72 => ?_)
      · skip
        try (exfalso; omega)
        all_goals
          refine bX4_set_77 (by first | omega | (simp only [il_2, il_3, il_7, il_9, il_18, il_19, il_36, il_37]; omega) | (simp [zu]; done) | (simp [zu]; omega)) (fun z77 => ?_) (fun z77 => ?_)
          · exfalso; omega
          · skip
            try (exfalso; omega)
            all_goals
              refine bX4_set_80  ?_
              refine kX4_isWorth (by first | omega | (simp only [il_2, il_3, il_7, il_9, il_18, il_19, il_36, il_37]; omega) | (simp [zu]; done) | (simp [zu]; omega)) (fun z80 => ?_) (fun z80 => ?_)
              · skip
                try (exfalso; omega)
                all_goals
                  refine bX4_set_84 (by first | omega | (simp only [il_2, il_3, il_7, il_9, il_18, il_19, il_36, il_37]; omega) | (simp [zu]; done) | (simp [zu]; omega)) (fun z84 => ?_) (fun z84 => ?_)
                  · exfalso; omega
                  · skip
                    try (exfalso; omega)
                    all_goals
                      refine bX4_set_87  ?_
                      refine kX4_replace (by first | omega | (simp only [il_2, il_3, il_7, il_9, il_18, il_19, il_36, il_37]; omega) | (simp [zu]; done) | (simp [zu]; omega)) (by first | omega | (simp only [il_2, il_3, il_7, il_9, il_18, il_19, il_36, il_37]; omega) | (simp [zu]; done) | (simp [zu]; omega)) ?_
                      exact bX4_set_100  ⟨_, rfl, by first | exact k0 (by first | omega | (simp only [il_2, il_3, il_7, il_9, il_18, il_19, il_36, il_37]; omega) | (simp [zu]; done) | (simp [zu]; omega)) | exact k1 (by first | omega | (simp only [il_2, il_3, il_7, il_9, il_18, il_19, il_36, il_37]; omega) | (simp [zu]; done) | (simp [zu]; omega)) | exact k2 (by first | omega | (simp only [il_2, il_3, il_7, il_9, il_18, il_19, il_36, il_37]; omega) | (simp [zu]; done) | (simp [zu]; omega)) | exact k3 (by first | omega | (simp only [il_2, il_3, il_7, il_9, il_18, il_19, il_36, il_37]; omega) | (simp [zu]; done) | (simp [zu]; omega))⟩
              · skip
                try (exfalso; omega)
                all_goals
                  refine bX4_set_84 (by first | omega | (simp only [il_2, il_3, il_7, il_9, il_18, il_19, il_36, il_37]; omega) | (simp [zu]; done) | (simp [zu]; omega)) (fun z84 => ?_) (fun z84 => ?_)
                  · skip
                    try (exfalso; omega)
                    all_goals
                      exact bX4_set_103  ⟨_, rfl, by first | exact k0 (by first | omega | (simp only [il_2, il_3, il_7, il_9, il_18, il_19, il_36, il_37]; omega) | (simp [zu]; done) | (simp [zu]; omega)) | exact k1 (by first | omega | (simp only [il_2, il_3, il_7, il_9, il_18, il_19, il_36, il_37]; omega) | (simp [zu]; done) | (simp [zu]; omega)) | exact k2 (by first | omega | (simp only [il_2, il_3, il_7, il_9, il_18, il_19, il_36, il_37]; omega) | (simp [zu]; done) | (simp [zu]; omega)) | exact k3 (by first | omega | (simp only [il_2, il_3, il_7, il_9, il_18, il_19, il_36, il_37]; omega) | (simp [zu]; done) | (simp [zu]; omega))⟩
                  · exfalso; omega
      · skip
        try (exfalso; omega)
        all_goals
          refine bX4_set_77 (by first | omega | (simp only [il_2, il_3, il_7, il_9, il_18, il_19, il_36, il_37]; omega) | (simp [zu]; done) | (simp [zu]; omega)) (fun z77 => ?_) (fun z77 => ?_)
          · skip
            try (exfalso; omega)
            all_goals
              exact bX4_set_103  ⟨_, rfl, by first | exact k0 (by first | omega | (simp only [il_2, il_3, il_7, il_9, il_18, il_19, il_36, il_37]; omega) | (simp [zu]; done) | (simp [zu]; omega)) | exact k1 (by first | omega | (simp only [il_2, il_3, il_7, il_9, il_18, il_19, il_36, il_37]; omega) | (simp [zu]; done) | (simp [zu]; omega)) | exact k2 (by first | omega | (simp only [il_2, il_3, il_7, il_9, il_18, il_19, il_36, il_37]; omega) | (simp [zu]; done) | (simp [zu]; omega)) | exact k3 (by first | omega | (simp only [il_2, il_3, il_7, il_9, il_18, il_19, il_36, il_37]; omega) | (simp [zu]; done) | (simp [zu]; omega))⟩
          · exfalso; omega
  · skip
    try (exfalso; omega)
    all_goals
      refine bX4_set_106  ?_
      refine kX4_isThing (by first | omega | (simp only [il_2, il_3, il_7, il_9, il_18, il_19, il_36, il_37]; omega) | (simp [zu]; done) | (simp [zu]; omega)) (by first | omega | (simp only [il_2, il_3, il_7, il_9, il_18, il_19, il_36, il_37]; omega) | (simp [zu]; done) | (simp [zu]; omega)) (fun z106 => ?_) (fun z106 => ?_)
      · skip
        try (exfalso; omega)
        all_goals
          refine bX4_set_111 (by first | omega | (simp only [il_2, il_3, il_7, il_9, il_18, il_19, il_36, il_37]; omega) | (simp [zu]; done) | (simp [zu]; omega)) (fun z111 => ?_) (fun z111 => ?_)
          · exfalso; omega
          · skip
            try (exfalso; omega)
            all_goals
              refine bX4_set_114  ?_
              refine kX4_isCount (by first | omega | (simp only [il_2, il_3, il_7, il_9, il_18, il_19, il_36, il_37]; omega) | (simp [zu]; done) | (simp [zu]; omega)) (fun z114 => ?_) (fun z114 => ?_)
              · skip
                try (exfalso; omega)
                all_goals
                  refine bX4_set_118 (by first | omega | (simp only [il_2, il_3, il_7, il_9, il_18, il_19, il_36, il_37]; omega) | (simp [zu]; done) | (simp [zu]; omega)) (fun z118 => ?_) (fun z118 => ?_)
                  · exfalso; omega
                  · skip
                    try (exfalso; omega)
                    all_goals
                      refine bX4_set_121  ?_
                      refine kX4_replace (by first | omega | (simp only [il_2, il_3, il_7, il_9, il_18, il_19, il_36, il_37]; omega) | (simp [zu]; done) | (simp [zu]; omega)) (by first | omega | (simp only [il_2, il_3, il_7, il_9, il_18, il_19, il_36, il_37]; omega) | (simp [zu]; done) | (simp [zu]; omega)) ?_
                      exact bX4_set_134  ⟨_, rfl, by first | exact k0 (by first | omega | (simp only [il_2, il_3, il_7, il_9, il_18, il_19, il_36, il_37]; omega) | (simp [zu]; done) | (simp [zu]; omega)) | exact k1 (by first | omega | (simp only [il_2, il_3, il_7, il_9, il_18, il_19, il_36, il_37]; omega) | (simp [zu]; done) | (simp [zu]; omega)) | exact k2 (by first | omega | (simp only [il_2, il_3, il_7, il_9, il_18, il_19, il_36, il_37]; omega) | (simp [zu]; done) | (simp [zu]; omega)) | exact k3 (by first | omega | (simp only [il_2, il_3, il_7, il_9, il_18, il_19, il_36, il_37]; omega) | (simp [zu]; done) | (simp [zu]; omega))⟩
              · skip
                try (exfalso; omega)
                all_goals
                  refine bX4_set_118 (by first | omega | (simp only [il_2, il_3, il_7, il_9, il_18, il_19, il_36, il_37]; omega) | (simp [zu]; done) | (simp [zu]; omega)) (fun z118 => ?_) (fun z118 => ?_)
                  · skip
                    try (exfalso; omega)
                    all_goals
                      exact bX4_set_137  ⟨_, rfl, by first | exact k0 (by first | omega | (simp only [il_2, il_3, il_7, il_9, il_18, il_19, il_36, il_37]; omega) | (simp [zu]; done) | (simp [zu]; omega)) | exact k1 (by first | omega | (simp only [il_2, il_3, il_7, il_9, il_18, il_19, il_36, il_37]; omega) | (simp [zu]; done) | (simp [zu]; omega)) | exact k2 (by first | omega | (simp only [il_2, il_3, il_7, il_9, il_18, il_19, il_36, il_37]; omega) | (simp [zu]; done) | (simp [zu]; omega)) | exact k3 (by first | omega | (simp only [il_2, il_3, il_7, il_9, il_18, il_19, il_36, il_37]; omega) | (simp [zu]; done) | (simp [zu]; omega))⟩
                  · exfalso; omega
      · skip
        try (exfalso; omega)
        all_goals
          refine bX4_set_111 (by first | omega | (simp only [il_2, il_3, il_7, il_9, il_18, il_19, il_36, il_37]; omega) | (simp [zu]; done) | (simp [zu]; omega)) (fun z111 => ?_) (fun z111 => ?_)
          · skip
            try (exfalso; omega)
            all_goals
              exact bX4_set_137  ⟨_, rfl, by first | exact k0 (by first | omega | (simp only [il_2, il_3, il_7, il_9, il_18, il_19, il_36, il_37]; omega) | (simp [zu]; done) | (simp [zu]; omega)) | exact k1 (by first | omega | (simp only [il_2, il_3, il_7, il_9, il_18, il_19, il_36, il_37]; omega) | (simp [zu]; done) | (simp [zu]; omega)) | exact k2 (by first | omega | (simp only [il_2, il_3, il_7, il_9, il_18, il_19, il_36, il_37]; omega) | (simp [zu]; done) | (simp [zu]; omega)) | exact k3 (by first | omega | (simp only [il_2, il_3, il_7, il_9, il_18, il_19, il_36, il_37]; omega) | (simp [zu]; done) | (simp [zu]; omega))⟩
          · exfalso; omega
  · skip
    try (exfalso; omega)
    all_goals
      exact bX4_set_140  ⟨_, rfl, by first | exact k0 (by first | omega | (simp only [il_2, il_3, il_7, il_9, il_18, il_19, il_36, il_37]; omega) | (simp [zu]; done) | (simp [zu]; omega)) | exact k1 (by first | omega | (simp only [il_2, il_3, il_7, il_9, il_18, il_19, il_36, il_37]; omega) | (simp [zu]; done) | (simp [zu]; omega)) | exact k2 (by first | omega | (simp only [il_2, il_3, il_7, il_9, il_18, il_19, il_36, il_37]; omega) | (simp [zu]; done) | (simp [zu]; omega)) | exact k3 (by first | omega | (simp only [il_2, il_3, il_7, il_9, il_18, il_19, il_36, il_37]; omega) | (simp [zu]; done) | (simp [zu]; omega))⟩
theorem kX4_put {d : Nat} {Z Y : Nat → Nat → Int} {S : Nat × (Nat → Int32)} {K : Int → jj_Hp → Prop} {t v : Int} (ht : -2147483648 ≤ t ∧ t ≤ 2147483647) (hv : -2147483648 ≤ v ∧ v ≤ 2147483647) (hn : 0 ≤ Z 1 0 ∧ Z 1 0 ≤ 4) (k0 : ¬ (0 ≤ t ∧ t < Z 1 0) ∨ ¬ (0 ≤ v ∧ v ≤ 9) → K (-1000001) (jj_h Z Y S)) (k1 : (0 ≤ t ∧ t < Z 1 0) ∧ (0 ≤ v ∧ v ≤ 9) → K (Z 26 t.toNat) (jj_h (zu Z 26 (t.toNat) v) Y S)) : jj_Ci (d + 1) mX4_put [.ref 0, iv t, iv v] (jj_h Z Y S) K := by
  refine nX4_put ?_
  refine bX4_put_0  ?_
  refine kX4_isThing (by first | omega | (simp only [il_2, il_3, il_7, il_9, il_18, il_19, il_36, il_37]; omega) | (simp [zu]; done) | (simp [zu]; omega)) (by first | omega | (simp only [il_2, il_3, il_7, il_9, il_18, il_19, il_36, il_37]; omega) | (simp [zu]; done) | (simp [zu]; omega)) (fun z0 => ?_) (fun z0 => ?_)
  · skip
    try (exfalso; omega)
    all_goals
      refine bX4_put_5 (by first | omega | (simp only [il_2, il_3, il_7, il_9, il_18, il_19, il_36, il_37]; omega) | (simp [zu]; done) | (simp [zu]; omega)) (fun z5 => ?_) (fun z5 => ?_)
      · exfalso; omega
      · skip
        try (exfalso; omega)
        all_goals
          refine bX4_put_8  ?_
          refine kX4_isCount (by first | omega | (simp only [il_2, il_3, il_7, il_9, il_18, il_19, il_36, il_37]; omega) | (simp [zu]; done) | (simp [zu]; omega)) (fun z8 => ?_) (fun z8 => ?_)
          · skip
            try (exfalso; omega)
            all_goals
              refine bX4_put_12 (by first | omega | (simp only [il_2, il_3, il_7, il_9, il_18, il_19, il_36, il_37]; omega) | (simp [zu]; done) | (simp [zu]; omega)) (fun z12 => ?_) (fun z12 => ?_)
              · skip
                try (exfalso; omega)
                all_goals
                  exact bX4_put_18 (by first | omega | (simp only [il_2, il_3, il_7, il_9, il_18, il_19, il_36, il_37]; omega) | (simp [zu]; done) | (simp [zu]; omega)) (by first | omega | (simp only [il_2, il_3, il_7, il_9, il_18, il_19, il_36, il_37]; omega) | (simp [zu]; done) | (simp [zu]; omega)) (by first | omega | (simp only [il_2, il_3, il_7, il_9, il_18, il_19, il_36, il_37]; omega) | (simp [zu]; done) | (simp [zu]; omega)) (by first | omega | (simp only [il_2, il_3, il_7, il_9, il_18, il_19, il_36, il_37]; omega) | (simp [zu]; done) | (simp [zu]; omega)) ⟨_, rfl, by first | exact k0 (by first | omega | (simp only [il_2, il_3, il_7, il_9, il_18, il_19, il_36, il_37]; omega) | (simp [zu]; done) | (simp [zu]; omega)) | exact k1 (by first | omega | (simp only [il_2, il_3, il_7, il_9, il_18, il_19, il_36, il_37]; omega) | (simp [zu]; done) | (simp [zu]; omega))⟩
              · exfalso; omega
          · skip
            try (exfalso; omega)
            all_goals
              refine bX4_put_12 (by first | omega | (simp only [il_2, il_3, il_7, il_9, il_18, il_19, il_36, il_37]; omega) | (simp [zu]; done) | (simp [zu]; omega)) (fun z12 => ?_) (fun z12 => ?_)
              · exfalso; omega
              · skip
                try (exfalso; omega)
                all_goals
                  exact bX4_put_15  ⟨_, rfl, by first | exact k0 (by first | omega | (simp only [il_2, il_3, il_7, il_9, il_18, il_19, il_36, il_37]; omega) | (simp [zu]; done) | (simp [zu]; omega)) | exact k1 (by first | omega | (simp only [il_2, il_3, il_7, il_9, il_18, il_19, il_36, il_37]; omega) | (simp [zu]; done) | (simp [zu]; omega))⟩
  · skip
    try (exfalso; omega)
    all_goals
      refine bX4_put_5 (by first | omega | (simp only [il_2, il_3, il_7, il_9, il_18, il_19, il_36, il_37]; omega) | (simp [zu]; done) | (simp [zu]; omega)) (fun z5 => ?_) (fun z5 => ?_)
      · skip
        try (exfalso; omega)
        all_goals
          exact bX4_put_15  ⟨_, rfl, by first | exact k0 (by first | omega | (simp only [il_2, il_3, il_7, il_9, il_18, il_19, il_36, il_37]; omega) | (simp [zu]; done) | (simp [zu]; omega)) | exact k1 (by first | omega | (simp only [il_2, il_3, il_7, il_9, il_18, il_19, il_36, il_37]; omega) | (simp [zu]; done) | (simp [zu]; omega))⟩
      · exfalso; omega

/-! the law, call by call -/
section LAW
variable {L : Nat} {xs : Nat → Int32} {d : Nat}
theorem SV_put : ∀ (b : Bk) (Z : Nat → Nat → Int) (k : Nat) (v : Int) (k' : Nat) (v' : Int), SV b Z → SV b (zu (zu Z 26 k v) 36 k' v') := fun b Z k v k' v' h => h.keep (fun a ha j => by rw [zu_ne (by omega), zu_ne (by omega)])
theorem CN_put : ∀ (b : Bk) (Z Y : Nat → Nat → Int) (k : Nat) (v : Int) (k' : Nat) (v' : Int), CN b Z Y → CN b (zu (zu Z 26 k v) 36 k' v') Y := fun b Z Y k v k' v' h => CN_f b Z _ Y Y (fun j => by rw [zu_ne (by omega), zu_ne (by omega)]) (fun _ _ _ _ => rfl) h
theorem x32 (x : Int32) : i32 x.toInt := ⟨Int32.le_toInt x, by have := Int32.toInt_lt x; omega⟩
theorem pairI_use {mX mM : jj_M} {ax am : List Value} {Z Y : Nat → Nat → Int} {S : Nat × (Nat → Int32)} (hp : PairI SV CN d mX mM ax am Z Y S) {F : Int → jj_Hp → Prop} {G : Int → Int → jj_Hp → Prop} (h2 : ∀ Z1 Y1 x, jj_Ci d mM am (jj_h Z1 Y1 S) (G x) → F x (jj_h Z1 Y1 S)) (h3 : ∀ x b' Z' Y', i32 x → Inv SV CN b' Z' Y' → G x x (jj_h Z' Y' S)) : jj_Ci d mX ax (jj_h Z Y S) F :=
  jj_Ci.imp hp (fun x h1 ⟨Z1, Y1, e, hx, hm⟩ => by
    subst e
    exact h2 Z1 Y1 x (jj_Ci.imp hm (fun y h2' ⟨ey, b', Z', Y', e', hI⟩ => by
      subst e'
      subst ey
      exact h3 y b' Z' Y' hx hI)))
theorem pairL_use {mX mM : jj_M} {ax am : List Value} {Z Y : Nat → Nat → Int} {S : Nat × (Nat → Int32)} (hp : PairL SV CN d mX mM ax am Z Y S) {F : Int → jj_Hp → Prop} {G : Int → Int → jj_Hp → Prop} (h2 : ∀ Z1 Y1 x, jj_Cl d mM am (jj_h Z1 Y1 S) (G x) → F x (jj_h Z1 Y1 S)) (h3 : ∀ x b' Z' Y', i64 x → Inv SV CN b' Z' Y' → G x x (jj_h Z' Y' S)) : jj_Cl d mX ax (jj_h Z Y S) F :=
  jj_Cl.imp hp (fun x h1 ⟨Z1, Y1, e, hx, hm⟩ => by
    subst e
    exact h2 Z1 Y1 x (jj_Cl.imp hm (fun y h2' ⟨ey, b', Z', Y', e', hI⟩ => by
      subst e'
      subst ey
      exact h3 y b' Z' Y' hx hI)))
/-- what holds between two calls, and the place in the script -/
def Nx (L : Nat) (xs : Nat → Int32) (i : Int) : Prop := ∀ (b : Bk) (Z Y : Nat → Nat → Int), Inv SV CN b Z Y → jj_Ex 20 mL_law 862 [.ref 1000, .ref 0, .ref 27, iv i] [] (jj_h Z Y (L, xs)) (fun r _ => r = some (iv 1))
theorem law_0 (hL : L ≤ 2147483647) {b : Bk} {Z Y : Nat → Nat → Int} {i : Int} (h0 : 0 ≤ i) (h5 : i + 5 ≤ (L : Int)) (hI : Inv SV CN b Z Y) (nx : Nx L xs i) : jj_Ex 20 mL_law 140 [.ref 1000, .ref 0, .ref 27, iv i] [] (jj_h Z Y (L, xs)) (fun r _ => r = some (iv 1)) := by
  exact bL_law_140 hL (by omega) (by omega) (by omega) (by omega) (pairI_use (op_thing (d := 17) hI (x32 _) (x32 _)) (fun Z1 Y1 x hm => bL_law_154 hL (by omega) (by omega) (by omega) (by omega) hm) (fun x b' Z' Y' hx hI2 => bL_law_168 hL hx hx (fun _ => nx b' Z' Y' hI2) (fun z => absurd rfl z)))
theorem law_1 (hL : L ≤ 2147483647) {b : Bk} {Z Y : Nat → Nat → Int} {i : Int} (h0 : 0 ≤ i) (h5 : i + 5 ≤ (L : Int)) (hI : Inv SV CN b Z Y) (nx : Nx L xs i) : jj_Ex 20 mL_law 173 [.ref 1000, .ref 0, .ref 27, iv i] [] (jj_h Z Y (L, xs)) (fun r _ => r = some (iv 1)) := by
  exact bL_law_173 hL (by omega) (by omega) (by omega) (by omega) (by omega) (by omega) (by omega) (by omega) (pairI_use (op_rule (d := 16) hI (x32 _) (x32 _) (x32 _) (x32 _)) (fun Z1 Y1 x hm => bL_law_197 hL (by omega) (by omega) (by omega) (by omega) (by omega) (by omega) (by omega) (by omega) hm) (fun x b' Z' Y' hx hI2 => bL_law_221 hL hx hx (fun _ => nx b' Z' Y' hI2) (fun z => absurd rfl z)))
theorem law_2 (hL : L ≤ 2147483647) {b : Bk} {Z Y : Nat → Nat → Int} {i : Int} (h0 : 0 ≤ i) (h5 : i + 5 ≤ (L : Int)) (hI : Inv SV CN b Z Y) (nx : Nx L xs i) : jj_Ex 20 mL_law 226 [.ref 1000, .ref 0, .ref 27, iv i] [] (jj_h Z Y (L, xs)) (fun r _ => r = some (iv 1)) := by
  exact bL_law_226 hL (by omega) (by omega) (by omega) (by omega) (by omega) (by omega) (pairI_use (op_amount (d := 16) hI (x32 _) (x32 _) (x32 _)) (fun Z1 Y1 x hm => bL_law_245 hL (by omega) (by omega) (by omega) (by omega) (by omega) (by omega) hm) (fun x b' Z' Y' hx hI2 => bL_law_264 hL hx hx (fun _ => nx b' Z' Y' hI2) (fun z => absurd rfl z)))
theorem law_3 (hL : L ≤ 2147483647) {b : Bk} {Z Y : Nat → Nat → Int} {i : Int} (h0 : 0 ≤ i) (h5 : i + 5 ≤ (L : Int)) (hI : Inv SV CN b Z Y) (nx : Nx L xs i) : jj_Ex 20 mL_law 269 [.ref 1000, .ref 0, .ref 27, iv i] [] (jj_h Z Y (L, xs)) (fun r _ => r = some (iv 1)) := by
  exact bL_law_269 hL (by omega) (by omega) (by omega) (by omega) (x32 _) (fun z => bL_law_287 hL (pairI_use (op_on (d := 16) hI (x32 _) (Or.inl rfl)) (fun Z1 Y1 x hm => bL_law_291 hL (by omega) (by omega) (by omega) (by omega) (x32 _) (fun _ => bL_law_309 hL hm) (fun z2 => absurd z z2)) (fun x b' Z' Y' hx hI2 => bL_law_313 hL hx hx (fun _ => nx b' Z' Y' hI2) (fun z => absurd rfl z)))) (fun z => bL_law_283 hL (pairI_use (op_on (d := 16) hI (x32 _) (Or.inr rfl)) (fun Z1 Y1 x hm => bL_law_291 hL (by omega) (by omega) (by omega) (by omega) (x32 _) (fun z2 => absurd z2 z) (fun _ => bL_law_305 hL hm)) (fun x b' Z' Y' hx hI2 => bL_law_313 hL hx hx (fun _ => nx b' Z' Y' hI2) (fun z => absurd rfl z))))
theorem law_4 (hL : L ≤ 2147483647) {b : Bk} {Z Y : Nat → Nat → Int} {i : Int} (h0 : 0 ≤ i) (h5 : i + 5 ≤ (L : Int)) (hI : Inv SV CN b Z Y) (nx : Nx L xs i) : jj_Ex 20 mL_law 318 [.ref 1000, .ref 0, .ref 27, iv i] [] (jj_h Z Y (L, xs)) (fun r _ => r = some (iv 1)) := by
  exact bL_law_318 hL (by omega) (by omega) (by omega) (by omega) (by omega) (by omega) (pairI_use (op_set (d := 16) hI (x32 _) (x32 _) (x32 _)) (fun Z1 Y1 x hm => bL_law_337 hL (by omega) (by omega) (by omega) (by omega) (by omega) (by omega) hm) (fun x b' Z' Y' hx hI2 => bL_law_356 hL hx hx (fun _ => nx b' Z' Y' hI2) (fun z => absurd rfl z)))
theorem law_5 (hL : L ≤ 2147483647) {b : Bk} {Z Y : Nat → Nat → Int} {i : Int} (h0 : 0 ≤ i) (h5 : i + 5 ≤ (L : Int)) (hI : Inv SV CN b Z Y) (nx : Nx L xs i) : jj_Ex 20 mL_law 361 [.ref 1000, .ref 0, .ref 27, iv i] [] (jj_h Z Y (L, xs)) (fun r _ => r = some (iv 1)) := by
  exact bL_law_361 hL  (pairI_use (op_value (d := 11) CN_f hI) (fun Z1 Y1 x hm => bL_law_365 hL  hm) (fun x b' Z' Y' hx hI2 => bL_law_369 hL hx hx (fun _ => nx b' Z' Y' hI2) (fun z => absurd rfl z)))
theorem law_6 (hL : L ≤ 2147483647) {b : Bk} {Z Y : Nat → Nat → Int} {i : Int} (h0 : 0 ≤ i) (h5 : i + 5 ≤ (L : Int)) (hI : Inv SV CN b Z Y) (nx : Nx L xs i) : jj_Ex 20 mL_law 374 [.ref 1000, .ref 0, .ref 27, iv i] [] (jj_h Z Y (L, xs)) (fun r _ => r = some (iv 1)) := by
  exact bL_law_374 hL (by omega) (by omega) (pairI_use (op_counted (d := 11) CN_f hI (x32 _)) (fun Z1 Y1 x hm => bL_law_383 hL (by omega) (by omega) hm) (fun x b' Z' Y' hx hI2 => bL_law_392 hL hx hx (fun _ => nx b' Z' Y' hI2) (fun z => absurd rfl z)))
theorem law_7 (hL : L ≤ 2147483647) {b : Bk} {Z Y : Nat → Nat → Int} {i : Int} (h0 : 0 ≤ i) (h5 : i + 5 ≤ (L : Int)) (hI : Inv SV CN b Z Y) (nx : Nx L xs i) : jj_Ex 20 mL_law 397 [.ref 1000, .ref 0, .ref 27, iv i] [] (jj_h Z Y (L, xs)) (fun r _ => r = some (iv 1)) := by
  exact bL_law_397 hL (by omega) (by omega) (pairI_use (op_first (d := 11) CN_f hI (x32 _)) (fun Z1 Y1 x hm => bL_law_406 hL (by omega) (by omega) hm) (fun x b' Z' Y' hx hI2 => bL_law_415 hL hx hx (fun _ => nx b' Z' Y' hI2) (fun z => absurd rfl z)))
theorem law_8 (hL : L ≤ 2147483647) {b : Bk} {Z Y : Nat → Nat → Int} {i : Int} (h0 : 0 ≤ i) (h5 : i + 5 ≤ (L : Int)) (hI : Inv SV CN b Z Y) (nx : Nx L xs i) : jj_Ex 20 mL_law 420 [.ref 1000, .ref 0, .ref 27, iv i] [] (jj_h Z Y (L, xs)) (fun r _ => r = some (iv 1)) := by
  exact bL_law_420 hL (by omega) (by omega) (pairI_use (op_fast (d := 11) CN_f hI (x32 _)) (fun Z1 Y1 x hm => bL_law_429 hL (by omega) (by omega) hm) (fun x b' Z' Y' hx hI2 => bL_law_438 hL hx hx (fun _ => nx b' Z' Y' hI2) (fun z => absurd rfl z)))
theorem law_9 (hL : L ≤ 2147483647) {b : Bk} {Z Y : Nat → Nat → Int} {i : Int} (h0 : 0 ≤ i) (h5 : i + 5 ≤ (L : Int)) (hI : Inv SV CN b Z Y) (nx : Nx L xs i) : jj_Ex 20 mL_law 443 [.ref 1000, .ref 0, .ref 27, iv i] [] (jj_h Z Y (L, xs)) (fun r _ => r = some (iv 1)) := by
  exact bL_law_443 hL (by omega) (by omega) (by omega) (by omega) (pairI_use (op_price (d := 11) CN_f hI (x32 _) (x32 _)) (fun Z1 Y1 x hm => bL_law_457 hL (by omega) (by omega) (by omega) (by omega) hm) (fun x b' Z' Y' hx hI2 => bL_law_471 hL hx hx (fun _ => nx b' Z' Y' hI2) (fun z => absurd rfl z)))
theorem law_10 (hL : L ≤ 2147483647) {b : Bk} {Z Y : Nat → Nat → Int} {i : Int} (h0 : 0 ≤ i) (h5 : i + 5 ≤ (L : Int)) (hI : Inv SV CN b Z Y) (nx : Nx L xs i) : jj_Ex 20 mL_law 476 [.ref 1000, .ref 0, .ref 27, iv i] [] (jj_h Z Y (L, xs)) (fun r _ => r = some (iv 1)) := by
  exact bL_law_476 hL (by omega) (by omega) (pairI_use (op_weight (d := 11) CN_f hI (x32 _)) (fun Z1 Y1 x hm => bL_law_485 hL (by omega) (by omega) hm) (fun x b' Z' Y' hx hI2 => bL_law_494 hL hx hx (fun _ => nx b' Z' Y' hI2) (fun z => absurd rfl z)))
theorem law_11 (hL : L ≤ 2147483647) {b : Bk} {Z Y : Nat → Nat → Int} {i : Int} (h0 : 0 ≤ i) (h5 : i + 5 ≤ (L : Int)) (hI : Inv SV CN b Z Y) (nx : Nx L xs i) : jj_Ex 20 mL_law 499 [.ref 1000, .ref 0, .ref 27, iv i] [] (jj_h Z Y (L, xs)) (fun r _ => r = some (iv 1)) := by
  exact bL_law_499 hL (by omega) (by omega) (pairI_use (op_rank (d := 11) CN_f hI (x32 _)) (fun Z1 Y1 x hm => bL_law_508 hL (by omega) (by omega) hm) (fun x b' Z' Y' hx hI2 => bL_law_517 hL hx hx (fun _ => nx b' Z' Y' hI2) (fun z => absurd rfl z)))
theorem law_12 (hL : L ≤ 2147483647) {b : Bk} {Z Y : Nat → Nat → Int} {i : Int} (h0 : 0 ≤ i) (h5 : i + 5 ≤ (L : Int)) (hI : Inv SV CN b Z Y) (nx : Nx L xs i) : jj_Ex 20 mL_law 522 [.ref 1000, .ref 0, .ref 27, iv i] [] (jj_h Z Y (L, xs)) (fun r _ => r = some (iv 1)) := by
  exact bL_law_522 hL (by omega) (by omega) (pairI_use (op_more (d := 11) CN_f hI (x32 _)) (fun Z1 Y1 x hm => bL_law_531 hL (by omega) (by omega) hm) (fun x b' Z' Y' hx hI2 => bL_law_540 hL hx hx (fun _ => nx b' Z' Y' hI2) (fun z => absurd rfl z)))
theorem law_13 (hL : L ≤ 2147483647) {b : Bk} {Z Y : Nat → Nat → Int} {i : Int} (h0 : 0 ≤ i) (h5 : i + 5 ≤ (L : Int)) (hI : Inv SV CN b Z Y) (nx : Nx L xs i) : jj_Ex 20 mL_law 545 [.ref 1000, .ref 0, .ref 27, iv i] [] (jj_h Z Y (L, xs)) (fun r _ => r = some (iv 1)) := by
  exact bL_law_545 hL (by omega) (by omega) (by omega) (by omega) (pairI_use (op_must (d := 11) CN_f hI (x32 _) (x32 _)) (fun Z1 Y1 x hm => bL_law_559 hL (by omega) (by omega) (by omega) (by omega) hm) (fun x b' Z' Y' hx hI2 => bL_law_573 hL hx hx (fun _ => nx b' Z' Y' hI2) (fun z => absurd rfl z)))
theorem law_14 (hL : L ≤ 2147483647) {b : Bk} {Z Y : Nat → Nat → Int} {i : Int} (h0 : 0 ≤ i) (h5 : i + 5 ≤ (L : Int)) (hI : Inv SV CN b Z Y) (nx : Nx L xs i) : jj_Ex 20 mL_law 578 [.ref 1000, .ref 0, .ref 27, iv i] [] (jj_h Z Y (L, xs)) (fun r _ => r = some (iv 1)) := by
  exact bL_law_578 hL (by omega) (by omega) (by omega) (by omega) (x32 _) (fun z => bL_law_596 hL (pairI_use (op_span (d := 11) CN_f hI (x32 _) (Or.inl rfl)) (fun Z1 Y1 x hm => bL_law_600 hL (by omega) (by omega) (by omega) (by omega) (x32 _) (fun _ => bL_law_618 hL hm) (fun z2 => absurd z z2)) (fun x b' Z' Y' hx hI2 => bL_law_622 hL hx hx (fun _ => nx b' Z' Y' hI2) (fun z => absurd rfl z)))) (fun z => bL_law_592 hL (pairI_use (op_span (d := 11) CN_f hI (x32 _) (Or.inr rfl)) (fun Z1 Y1 x hm => bL_law_600 hL (by omega) (by omega) (by omega) (by omega) (x32 _) (fun z2 => absurd z2 z) (fun _ => bL_law_614 hL hm)) (fun x b' Z' Y' hx hI2 => bL_law_622 hL hx hx (fun _ => nx b' Z' Y' hI2) (fun z => absurd rfl z))))
theorem law_15 (hL : L ≤ 2147483647) {b : Bk} {Z Y : Nat → Nat → Int} {i : Int} (h0 : 0 ≤ i) (h5 : i + 5 ≤ (L : Int)) (hI : Inv SV CN b Z Y) (nx : Nx L xs i) : jj_Ex 20 mL_law 627 [.ref 1000, .ref 0, .ref 27, iv i] [] (jj_h Z Y (L, xs)) (fun r _ => r = some (iv 1)) := by
  exact bL_law_627 hL (by omega) (by omega) (by omega) (by omega) (pairI_use (op_put (d := 16) SV_put CN_put hI (x32 _) (x32 _)) (fun Z1 Y1 x hm => bL_law_641 hL (by omega) (by omega) (by omega) (by omega) hm) (fun x b' Z' Y' hx hI2 => bL_law_655 hL hx hx (fun _ => nx b' Z' Y' hI2) (fun z => absurd rfl z)))
theorem law_16 (hL : L ≤ 2147483647) {b : Bk} {Z Y : Nat → Nat → Int} {i : Int} (h0 : 0 ≤ i) (h5 : i + 5 ≤ (L : Int)) (hI : Inv SV CN b Z Y) (nx : Nx L xs i) : jj_Ex 20 mL_law 660 [.ref 1000, .ref 0, .ref 27, iv i] [] (jj_h Z Y (L, xs)) (fun r _ => r = some (iv 1)) := by
  exact bL_law_660 hL  (pairI_use (op_worth (d := 11) CN_f hI) (fun Z1 Y1 x hm => bL_law_664 hL  hm) (fun x b' Z' Y' hx hI2 => bL_law_668 hL hx hx (fun _ => nx b' Z' Y' hI2) (fun z => absurd rfl z)))
theorem law_17 (hL : L ≤ 2147483647) {b : Bk} {Z Y : Nat → Nat → Int} {i : Int} (h0 : 0 ≤ i) (h5 : i + 5 ≤ (L : Int)) (hI : Inv SV CN b Z Y) (nx : Nx L xs i) : jj_Ex 20 mL_law 673 [.ref 1000, .ref 0, .ref 27, iv i] [] (jj_h Z Y (L, xs)) (fun r _ => r = some (iv 1)) := by
  exact bL_law_673 hL  (pairI_use (op_broken (d := 11) CN_f hI) (fun Z1 Y1 x hm => bL_law_677 hL  hm) (fun x b' Z' Y' hx hI2 => bL_law_681 hL hx hx (fun _ => nx b' Z' Y' hI2) (fun z => absurd rfl z)))
theorem law_18 (hL : L ≤ 2147483647) {b : Bk} {Z Y : Nat → Nat → Int} {i : Int} (h0 : 0 ≤ i) (h5 : i + 5 ≤ (L : Int)) (hI : Inv SV CN b Z Y) (nx : Nx L xs i) : jj_Ex 20 mL_law 686 [.ref 1000, .ref 0, .ref 27, iv i] [] (jj_h Z Y (L, xs)) (fun r _ => r = some (iv 1)) := by
  exact bL_law_686 hL (by omega) (by omega) (x32 _) (fun z => bL_law_699 hL (pairL_use (op_share (d := 8) hI (Or.inl rfl)) (fun Z1 Y1 x hm => bL_law_703 hL (by omega) (by omega) (x32 _) (fun _ => bL_law_716 hL hm) (fun z2 => absurd z z2)) (fun x b' Z' Y' hx hI2 => bL_law_720 hL hx hx (fun _ => nx b' Z' Y' hI2) (fun z => absurd rfl z)))) (fun z => bL_law_695 hL (pairL_use (op_share (d := 8) hI (Or.inr rfl)) (fun Z1 Y1 x hm => bL_law_703 hL (by omega) (by omega) (x32 _) (fun z2 => absurd z2 z) (fun _ => bL_law_712 hL hm)) (fun x b' Z' Y' hx hI2 => bL_law_720 hL hx hx (fun _ => nx b' Z' Y' hI2) (fun z => absurd rfl z))))
theorem law_19 (hL : L ≤ 2147483647) {b : Bk} {Z Y : Nat → Nat → Int} {i : Int} (h0 : 0 ≤ i) (h5 : i + 5 ≤ (L : Int)) (hI : Inv SV CN b Z Y) (nx : Nx L xs i) : jj_Ex 20 mL_law 726 [.ref 1000, .ref 0, .ref 27, iv i] [] (jj_h Z Y (L, xs)) (fun r _ => r = some (iv 1)) := by
  exact bL_law_726 hL (by omega) (by omega) (by omega) (by omega) (x32 _) (fun z => bL_law_744 hL (pairL_use (op_sharePrice (d := 8) hI (x32 _) (Or.inl rfl)) (fun Z1 Y1 x hm => bL_law_748 hL (by omega) (by omega) (by omega) (by omega) (x32 _) (fun _ => bL_law_766 hL hm) (fun z2 => absurd z z2)) (fun x b' Z' Y' hx hI2 => bL_law_770 hL hx hx (fun _ => nx b' Z' Y' hI2) (fun z => absurd rfl z)))) (fun z => bL_law_740 hL (pairL_use (op_sharePrice (d := 8) hI (x32 _) (Or.inr rfl)) (fun Z1 Y1 x hm => bL_law_748 hL (by omega) (by omega) (by omega) (by omega) (x32 _) (fun z2 => absurd z2 z) (fun _ => bL_law_762 hL hm)) (fun x b' Z' Y' hx hI2 => bL_law_770 hL hx hx (fun _ => nx b' Z' Y' hI2) (fun z => absurd rfl z))))
theorem law_20 (hL : L ≤ 2147483647) {b : Bk} {Z Y : Nat → Nat → Int} {i : Int} (h0 : 0 ≤ i) (h5 : i + 5 ≤ (L : Int)) (hI : Inv SV CN b Z Y) (nx : Nx L xs i) : jj_Ex 20 mL_law 776 [.ref 1000, .ref 0, .ref 27, iv i] [] (jj_h Z Y (L, xs)) (fun r _ => r = some (iv 1)) := by
  exact bL_law_776 hL (by omega) (by omega) (pairI_use (op_holds (d := 8) hI (x32 _)) (fun Z1 Y1 x hm => bL_law_785 hL (by omega) (by omega) hm) (fun x b' Z' Y' hx hI2 => bL_law_794 hL hx hx (fun _ => nx b' Z' Y' hI2) (fun z => absurd rfl z)))
theorem law_21 (hL : L ≤ 2147483647) {b : Bk} {Z Y : Nat → Nat → Int} {i : Int} (h0 : 0 ≤ i) (h5 : i + 5 ≤ (L : Int)) (hI : Inv SV CN b Z Y) (nx : Nx L xs i) : jj_Ex 20 mL_law 799 [.ref 1000, .ref 0, .ref 27, iv i] [] (jj_h Z Y (L, xs)) (fun r _ => r = some (iv 1)) := by
  exact bL_law_799 hL (by omega) (by omega) (x32 _) (fun z => bL_law_812 hL (pairL_use (op_gap (d := 8) hI (Or.inl rfl)) (fun Z1 Y1 x hm => bL_law_816 hL (by omega) (by omega) (x32 _) (fun _ => bL_law_829 hL hm) (fun z2 => absurd z z2)) (fun x b' Z' Y' hx hI2 => bL_law_833 hL hx hx (fun _ => nx b' Z' Y' hI2) (fun z => absurd rfl z)))) (fun z => bL_law_808 hL (pairL_use (op_gap (d := 8) hI (Or.inr rfl)) (fun Z1 Y1 x hm => bL_law_816 hL (by omega) (by omega) (x32 _) (fun z2 => absurd z2 z) (fun _ => bL_law_825 hL hm)) (fun x b' Z' Y' hx hI2 => bL_law_833 hL hx hx (fun _ => nx b' Z' Y' hI2) (fun z => absurd rfl z))))
theorem law_22 (hL : L ≤ 2147483647) {b : Bk} {Z Y : Nat → Nat → Int} {i : Int} (h0 : 0 ≤ i) (h5 : i + 5 ≤ (L : Int)) (hI : Inv SV CN b Z Y) (nx : Nx L xs i) : jj_Ex 20 mL_law 839 [.ref 1000, .ref 0, .ref 27, iv i] [] (jj_h Z Y (L, xs)) (fun r _ => r = some (iv 1)) := by
  exact bL_law_839 hL (by omega) (by omega) (pairI_use (op_told (d := 11) hI (x32 _)) (fun Z1 Y1 x hm => bL_law_848 hL (by omega) (by omega) hm) (fun x b' Z' Y' hx hI2 => bL_law_857 hL hx hx (fun _ => nx b' Z' Y' hI2) (fun z => absurd rfl z)))
theorem law_sw (hL : L ≤ 2147483647) {b : Bk} {Z Y : Nat → Nat → Int} {i : Int} (h0 : 0 ≤ i) (h5 : i + 5 ≤ (L : Int)) (hI : Inv SV CN b Z Y) (nx : Nx L xs i) (n : Nat) (hn : n < 32) : jj_Ex 20 mL_law 32 [.ref 1000, .ref 0, .ref 27, iv i] [iv (n : Int)] (jj_h Z Y (L, xs)) (fun r _ => r = some (iv 1)) := by
  by_cases hz : (n : Int) < 0 ∨ 22 < (n : Int)
  · exact xo_tsw (t := 862) dL_law_32 (by omega) (jj_tst_out hz rfl) (nx b Z Y hI)
  by_cases z0 : n = 0
  · subst z0
    exact xo_tsw (t := 140) dL_law_32 (by omega) rfl (law_0 hL h0 h5 hI nx)
  by_cases z1 : n = 1
  · subst z1
    exact xo_tsw (t := 173) dL_law_32 (by omega) rfl (law_1 hL h0 h5 hI nx)
  by_cases z2 : n = 2
  · subst z2
    exact xo_tsw (t := 226) dL_law_32 (by omega) rfl (law_2 hL h0 h5 hI nx)
  by_cases z3 : n = 3
  · subst z3
    exact xo_tsw (t := 269) dL_law_32 (by omega) rfl (law_3 hL h0 h5 hI nx)
  by_cases z4 : n = 4
  · subst z4
    exact xo_tsw (t := 318) dL_law_32 (by omega) rfl (law_4 hL h0 h5 hI nx)
  by_cases z5 : n = 5
  · subst z5
    exact xo_tsw (t := 361) dL_law_32 (by omega) rfl (law_5 hL h0 h5 hI nx)
  by_cases z6 : n = 6
  · subst z6
    exact xo_tsw (t := 374) dL_law_32 (by omega) rfl (law_6 hL h0 h5 hI nx)
  by_cases z7 : n = 7
  · subst z7
    exact xo_tsw (t := 397) dL_law_32 (by omega) rfl (law_7 hL h0 h5 hI nx)
  by_cases z8 : n = 8
  · subst z8
    exact xo_tsw (t := 420) dL_law_32 (by omega) rfl (law_8 hL h0 h5 hI nx)
  by_cases z9 : n = 9
  · subst z9
    exact xo_tsw (t := 443) dL_law_32 (by omega) rfl (law_9 hL h0 h5 hI nx)
  by_cases z10 : n = 10
  · subst z10
    exact xo_tsw (t := 476) dL_law_32 (by omega) rfl (law_10 hL h0 h5 hI nx)
  by_cases z11 : n = 11
  · subst z11
    exact xo_tsw (t := 499) dL_law_32 (by omega) rfl (law_11 hL h0 h5 hI nx)
  by_cases z12 : n = 12
  · subst z12
    exact xo_tsw (t := 522) dL_law_32 (by omega) rfl (law_12 hL h0 h5 hI nx)
  by_cases z13 : n = 13
  · subst z13
    exact xo_tsw (t := 545) dL_law_32 (by omega) rfl (law_13 hL h0 h5 hI nx)
  by_cases z14 : n = 14
  · subst z14
    exact xo_tsw (t := 578) dL_law_32 (by omega) rfl (law_14 hL h0 h5 hI nx)
  by_cases z15 : n = 15
  · subst z15
    exact xo_tsw (t := 627) dL_law_32 (by omega) rfl (law_15 hL h0 h5 hI nx)
  by_cases z16 : n = 16
  · subst z16
    exact xo_tsw (t := 660) dL_law_32 (by omega) rfl (law_16 hL h0 h5 hI nx)
  by_cases z17 : n = 17
  · subst z17
    exact xo_tsw (t := 673) dL_law_32 (by omega) rfl (law_17 hL h0 h5 hI nx)
  by_cases z18 : n = 18
  · subst z18
    exact xo_tsw (t := 686) dL_law_32 (by omega) rfl (law_18 hL h0 h5 hI nx)
  by_cases z19 : n = 19
  · subst z19
    exact xo_tsw (t := 726) dL_law_32 (by omega) rfl (law_19 hL h0 h5 hI nx)
  by_cases z20 : n = 20
  · subst z20
    exact xo_tsw (t := 776) dL_law_32 (by omega) rfl (law_20 hL h0 h5 hI nx)
  by_cases z21 : n = 21
  · subst z21
    exact xo_tsw (t := 799) dL_law_32 (by omega) rfl (law_21 hL h0 h5 hI nx)
  by_cases z22 : n = 22
  · subst z22
    exact xo_tsw (t := 839) dL_law_32 (by omega) rfl (law_22 hL h0 h5 hI nx)
  omega
theorem law_loop (hL : L ≤ 2560) : ∀ (m : Nat) (i : Nat) (b : Bk) (Z Y : Nat → Nat → Int), L ≤ i + m → i ≤ L + 5 → Inv SV CN b Z Y → jj_Ex 20 mL_law 18 [.ref 1000, .ref 0, .ref 27, iv (i : Int)] [] (jj_h Z Y (L, xs)) (fun r _ => r = some (iv 1)) := by
  intro m
  induction m with
  | zero =>
    intro i b Z Y hm hi hI
    exact bL_law_18 (by omega) (by omega) (by omega) (fun _ => bL_law_868 (by omega) rfl) (fun z => by omega)
  | succ m ih =>
    intro i b Z Y hm hi hI
    refine bL_law_18 (by omega) (by omega) (by omega) (fun _ => bL_law_868 (by omega) rfl) (fun z => bL_law_26 (by omega) (by omega) (by omega) (fun n hn => law_sw (by omega) (by omega) (by omega) hI (fun b' Z' Y' hI' => bL_law_862 (by omega) ?_) n hn))
    exact ih (i + 5) b' Z' Y' (by omega) (by omega) hI'
/-- nothing is told yet -/
def bk0 : Bk := ((0, 0), ((fun _ => 0), (fun _ => 0)), ((fun _ => 0), (fun _ => 0), (fun _ => 0), (fun _ => 0), (fun _ => 0)), (fun _ _ => 0))
theorem inv0 : Inv SV CN bk0 (fun _ _ => 0) (fun _ _ => 0) := by
  refine ⟨⟨by decide, by decide, fun t ht => absurd ht (Nat.not_lt_zero t), fun r hr => absurd hr (Nat.not_lt_zero r), fun r t hr => absurd hr (Nat.not_lt_zero r), fun _ _ _ => rfl, fun r t hr => absurd hr (Nat.not_lt_zero r), fun r t hr => absurd hr (Nat.not_lt_zero r)⟩, ⟨rfl, rfl, fun t ht => absurd ht (Nat.not_lt_zero t), fun r hr => absurd hr (Nat.not_lt_zero r), fun _ _ _ _ => rfl⟩, ⟨rfl, rfl, fun t ht => absurd ht (Nat.not_lt_zero t), fun r hr => absurd hr (Nat.not_lt_zero r), fun r t _ _ => ?_⟩, fun t _ => ⟨rfl, Int.le_refl _, (show (0 : Int) ≤ 9 by omega)⟩, Or.inl rfl, Or.inl rfl⟩
  rw [if_neg (fun z => Nat.not_lt_zero r z.1)]
theorem law_pure (hL : L ≤ 2560) : jj_Ex 20 mL_law 18 [.ref 1000, .ref 0, .ref 27, iv 0] [] (jj_h (fun _ _ => 0) (fun _ _ => 0) (L, xs)) (fun r _ => r = some (iv 1)) :=
  law_loop hL L 0 bk0 _ _ (by omega) (by omega) inv0
end LAW

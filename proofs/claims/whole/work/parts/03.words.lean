/-! words of the tables that calls can hand on -/
def jj_wl : List Cond := lw_tbl.filter goodWord
theorem jj_m {i : Nat} {w : Cond} (h : lw_tbl[i]? = some w) (g : goodWord w = true) : w ∈ jj_wl := List.mem_filter.mpr ⟨List.mem_of_getElem? h, g⟩
theorem jj_wl_good : ∀ w ∈ jj_wl, goodWord w = true := fun w h => (List.mem_filter.mp h).2
def jj_T : Nat → u_T
  | 0 => TX0
  | 1 => TX1
  | 2 => TX2
  | 3 => TX3
  | 4 => TX4
  | 5 => TX5
  | _ => TX0
set_option maxRecDepth 20000 in
theorem jj_fl_ok_0 : ∀ e ∈ jj_fl 0, Cond.fieldLink (jj_R 0) e.1 (jj_T e.2.1 e.2.2).1 (jj_T e.2.1 e.2.2).2.1 (jj_T e.2.1 e.2.2).2.2.1 ∈ jj_wl := List.forall_mem_cons.mpr ⟨jj_m (i := 72) rfl rfl, List.forall_mem_cons.mpr ⟨jj_m (i := 76) rfl rfl, List.forall_mem_cons.mpr ⟨jj_m (i := 80) rfl rfl, List.forall_mem_cons.mpr ⟨jj_m (i := 83) rfl rfl, List.forall_mem_cons.mpr ⟨jj_m (i := 85) rfl rfl, List.forall_mem_cons.mpr ⟨jj_m (i := 87) rfl rfl, List.forall_mem_cons.mpr ⟨jj_m (i := 91) rfl rfl, List.forall_mem_cons.mpr ⟨jj_m (i := 94) rfl rfl, List.forall_mem_cons.mpr ⟨jj_m (i := 64) rfl rfl, List.forall_mem_cons.mpr ⟨jj_m (i := 70) rfl rfl, fun _ h => absurd h List.not_mem_nil⟩⟩⟩⟩⟩⟩⟩⟩⟩⟩
set_option maxRecDepth 20000 in
theorem jj_fl_ok_1 : ∀ e ∈ jj_fl 1, Cond.fieldLink (jj_R 1) e.1 (jj_T e.2.1 e.2.2).1 (jj_T e.2.1 e.2.2).2.1 (jj_T e.2.1 e.2.2).2.2.1 ∈ jj_wl := List.forall_mem_cons.mpr ⟨jj_m (i := 191) rfl rfl, List.forall_mem_cons.mpr ⟨jj_m (i := 193) rfl rfl, List.forall_mem_cons.mpr ⟨jj_m (i := 195) rfl rfl, List.forall_mem_cons.mpr ⟨jj_m (i := 196) rfl rfl, List.forall_mem_cons.mpr ⟨jj_m (i := 197) rfl rfl, List.forall_mem_cons.mpr ⟨jj_m (i := 190) rfl rfl, List.forall_mem_cons.mpr ⟨jj_m (i := 69) rfl rfl, List.forall_mem_cons.mpr ⟨jj_m (i := 66) rfl rfl, List.forall_mem_cons.mpr ⟨jj_m (i := 73) rfl rfl, List.forall_mem_cons.mpr ⟨jj_m (i := 96) rfl rfl, List.forall_mem_cons.mpr ⟨jj_m (i := 90) rfl rfl, List.forall_mem_cons.mpr ⟨jj_m (i := 79) rfl rfl, fun _ h => absurd h List.not_mem_nil⟩⟩⟩⟩⟩⟩⟩⟩⟩⟩⟩⟩
set_option maxRecDepth 20000 in
theorem jj_fl_ok_2 : ∀ e ∈ jj_fl 2, Cond.fieldLink (jj_R 2) e.1 (jj_T e.2.1 e.2.2).1 (jj_T e.2.1 e.2.2).2.1 (jj_T e.2.1 e.2.2).2.2.1 ∈ jj_wl := List.forall_mem_cons.mpr ⟨jj_m (i := 159) rfl rfl, List.forall_mem_cons.mpr ⟨jj_m (i := 161) rfl rfl, List.forall_mem_cons.mpr ⟨jj_m (i := 163) rfl rfl, List.forall_mem_cons.mpr ⟨jj_m (i := 164) rfl rfl, List.forall_mem_cons.mpr ⟨jj_m (i := 150) rfl rfl, List.forall_mem_cons.mpr ⟨jj_m (i := 153) rfl rfl, List.forall_mem_cons.mpr ⟨jj_m (i := 155) rfl rfl, List.forall_mem_cons.mpr ⟨jj_m (i := 157) rfl rfl, List.forall_mem_cons.mpr ⟨jj_m (i := 151) rfl rfl, List.forall_mem_cons.mpr ⟨jj_m (i := 127) rfl rfl, List.forall_mem_cons.mpr ⟨jj_m (i := 129) rfl rfl, fun _ h => absurd h List.not_mem_nil⟩⟩⟩⟩⟩⟩⟩⟩⟩⟩⟩
set_option maxRecDepth 20000 in
theorem jj_fl_ok_3 : ∀ e ∈ jj_fl 3, Cond.fieldLink (jj_R 3) e.1 (jj_T e.2.1 e.2.2).1 (jj_T e.2.1 e.2.2).2.1 (jj_T e.2.1 e.2.2).2.2.1 ∈ jj_wl := List.forall_mem_cons.mpr ⟨jj_m (i := 121) rfl rfl, List.forall_mem_cons.mpr ⟨jj_m (i := 123) rfl rfl, List.forall_mem_cons.mpr ⟨jj_m (i := 124) rfl rfl, List.forall_mem_cons.mpr ⟨jj_m (i := 125) rfl rfl, List.forall_mem_cons.mpr ⟨jj_m (i := 126) rfl rfl, List.forall_mem_cons.mpr ⟨jj_m (i := 68) rfl rfl, List.forall_mem_cons.mpr ⟨jj_m (i := 92) rfl rfl, List.forall_mem_cons.mpr ⟨jj_m (i := 88) rfl rfl, List.forall_mem_cons.mpr ⟨jj_m (i := 67) rfl rfl, List.forall_mem_cons.mpr ⟨jj_m (i := 77) rfl rfl, List.forall_mem_cons.mpr ⟨jj_m (i := 128) rfl rfl, List.forall_mem_cons.mpr ⟨jj_m (i := 75) rfl rfl, List.forall_mem_cons.mpr ⟨jj_m (i := 97) rfl rfl, List.forall_mem_cons.mpr ⟨jj_m (i := 82) rfl rfl, List.forall_mem_cons.mpr ⟨jj_m (i := 84) rfl rfl, List.forall_mem_cons.mpr ⟨jj_m (i := 86) rfl rfl, fun _ h => absurd h List.not_mem_nil⟩⟩⟩⟩⟩⟩⟩⟩⟩⟩⟩⟩⟩⟩⟩⟩
set_option maxRecDepth 20000 in
theorem jj_fl_ok_4 : ∀ e ∈ jj_fl 4, Cond.fieldLink (jj_R 4) e.1 (jj_T e.2.1 e.2.2).1 (jj_T e.2.1 e.2.2).2.1 (jj_T e.2.1 e.2.2).2.2.1 ∈ jj_wl := List.forall_mem_cons.mpr ⟨jj_m (i := 212) rfl rfl, List.forall_mem_cons.mpr ⟨jj_m (i := 122) rfl rfl, List.forall_mem_cons.mpr ⟨jj_m (i := 213) rfl rfl, List.forall_mem_cons.mpr ⟨jj_m (i := 214) rfl rfl, List.forall_mem_cons.mpr ⟨jj_m (i := 215) rfl rfl, List.forall_mem_cons.mpr ⟨jj_m (i := 216) rfl rfl, List.forall_mem_cons.mpr ⟨jj_m (i := 65) rfl rfl, List.forall_mem_cons.mpr ⟨jj_m (i := 71) rfl rfl, List.forall_mem_cons.mpr ⟨jj_m (i := 81) rfl rfl, List.forall_mem_cons.mpr ⟨jj_m (i := 95) rfl rfl, List.forall_mem_cons.mpr ⟨jj_m (i := 93) rfl rfl, List.forall_mem_cons.mpr ⟨jj_m (i := 89) rfl rfl, List.forall_mem_cons.mpr ⟨jj_m (i := 74) rfl rfl, List.forall_mem_cons.mpr ⟨jj_m (i := 78) rfl rfl, List.forall_mem_cons.mpr ⟨jj_m (i := 158) rfl rfl, List.forall_mem_cons.mpr ⟨jj_m (i := 156) rfl rfl, List.forall_mem_cons.mpr ⟨jj_m (i := 154) rfl rfl, List.forall_mem_cons.mpr ⟨jj_m (i := 152) rfl rfl, List.forall_mem_cons.mpr ⟨jj_m (i := 160) rfl rfl, List.forall_mem_cons.mpr ⟨jj_m (i := 162) rfl rfl, List.forall_mem_cons.mpr ⟨jj_m (i := 130) rfl rfl, List.forall_mem_cons.mpr ⟨jj_m (i := 192) rfl rfl, List.forall_mem_cons.mpr ⟨jj_m (i := 194) rfl rfl, List.forall_mem_cons.mpr ⟨jj_m (i := 217) rfl rfl, List.forall_mem_cons.mpr ⟨jj_m (i := 218) rfl rfl, fun _ h => absurd h List.not_mem_nil⟩⟩⟩⟩⟩⟩⟩⟩⟩⟩⟩⟩⟩⟩⟩⟩⟩⟩⟩⟩⟩⟩⟩⟩⟩
set_option maxRecDepth 20000 in
theorem jj_fl_ok_5 : ∀ e ∈ jj_fl 5, Cond.fieldLink (jj_R 5) e.1 (jj_T e.2.1 e.2.2).1 (jj_T e.2.1 e.2.2).2.1 (jj_T e.2.1 e.2.2).2.2.1 ∈ jj_wl := List.forall_mem_cons.mpr ⟨jj_m (i := 581) rfl rfl, List.forall_mem_cons.mpr ⟨jj_m (i := 582) rfl rfl, List.forall_mem_cons.mpr ⟨jj_m (i := 584) rfl rfl, List.forall_mem_cons.mpr ⟨jj_m (i := 585) rfl rfl, List.forall_mem_cons.mpr ⟨jj_m (i := 586) rfl rfl, List.forall_mem_cons.mpr ⟨jj_m (i := 587) rfl rfl, List.forall_mem_cons.mpr ⟨jj_m (i := 588) rfl rfl, List.forall_mem_cons.mpr ⟨jj_m (i := 589) rfl rfl, List.forall_mem_cons.mpr ⟨jj_m (i := 590) rfl rfl, List.forall_mem_cons.mpr ⟨jj_m (i := 591) rfl rfl, List.forall_mem_cons.mpr ⟨jj_m (i := 594) rfl rfl, List.forall_mem_cons.mpr ⟨jj_m (i := 595) rfl rfl, List.forall_mem_cons.mpr ⟨jj_m (i := 598) rfl rfl, List.forall_mem_cons.mpr ⟨jj_m (i := 600) rfl rfl, List.forall_mem_cons.mpr ⟨jj_m (i := 601) rfl rfl, List.forall_mem_cons.mpr ⟨jj_m (i := 602) rfl rfl, List.forall_mem_cons.mpr ⟨jj_m (i := 603) rfl rfl, List.forall_mem_cons.mpr ⟨jj_m (i := 604) rfl rfl, List.forall_mem_cons.mpr ⟨jj_m (i := 580) rfl rfl, List.forall_mem_cons.mpr ⟨jj_m (i := 583) rfl rfl, List.forall_mem_cons.mpr ⟨jj_m (i := 592) rfl rfl, List.forall_mem_cons.mpr ⟨jj_m (i := 593) rfl rfl, List.forall_mem_cons.mpr ⟨jj_m (i := 596) rfl rfl, List.forall_mem_cons.mpr ⟨jj_m (i := 597) rfl rfl, List.forall_mem_cons.mpr ⟨jj_m (i := 599) rfl rfl, List.forall_mem_cons.mpr ⟨jj_m (i := 607) rfl rfl, List.forall_mem_cons.mpr ⟨jj_m (i := 605) rfl rfl, List.forall_mem_cons.mpr ⟨jj_m (i := 606) rfl rfl, List.forall_mem_cons.mpr ⟨jj_m (i := 610) rfl rfl, List.forall_mem_cons.mpr ⟨jj_m (i := 608) rfl rfl, List.forall_mem_cons.mpr ⟨jj_m (i := 609) rfl rfl, fun _ h => absurd h List.not_mem_nil⟩⟩⟩⟩⟩⟩⟩⟩⟩⟩⟩⟩⟩⟩⟩⟩⟩⟩⟩⟩⟩⟩⟩⟩⟩⟩⟩⟩⟩⟩⟩
theorem jj_fl_ok : ∀ c : Nat, ∀ e ∈ jj_fl c, Cond.fieldLink (jj_R c) e.1 (jj_T e.2.1 e.2.2).1 (jj_T e.2.1 e.2.2).2.1 (jj_T e.2.1 e.2.2).2.2.1 ∈ jj_wl := fun c => match c with
  | 0 => jj_fl_ok_0
  | 1 => jj_fl_ok_1
  | 2 => jj_fl_ok_2
  | 3 => jj_fl_ok_3
  | 4 => jj_fl_ok_4
  | 5 => jj_fl_ok_5
  | 6 => fun _ h => absurd h List.not_mem_nil
  | 7 => fun _ h => absurd h List.not_mem_nil
  | 8 => fun _ h => absurd h List.not_mem_nil
  | 9 => fun _ h => absurd h List.not_mem_nil
  | _ + 10 => fun _ h => absurd h List.not_mem_nil
set_option maxRecDepth 20000 in
theorem jj_ld_ok_2 : ∀ e ∈ jj_ldL 2, Cond.constant (jj_R 2) e.1 e.2 ∈ jj_wl := List.forall_mem_cons.mpr ⟨jj_m (i := 305) rfl rfl, fun _ h => absurd h List.not_mem_nil⟩
set_option maxRecDepth 20000 in
theorem jj_ld_ok_3 : ∀ e ∈ jj_ldL 3, Cond.constant (jj_R 3) e.1 e.2 ∈ jj_wl := List.forall_mem_cons.mpr ⟨jj_m (i := 313) rfl rfl, List.forall_mem_cons.mpr ⟨jj_m (i := 333) rfl rfl, fun _ h => absurd h List.not_mem_nil⟩⟩
set_option maxRecDepth 20000 in
theorem jj_ld_ok_4 : ∀ e ∈ jj_ldL 4, Cond.constant (jj_R 4) e.1 e.2 ∈ jj_wl := List.forall_mem_cons.mpr ⟨jj_m (i := 244) rfl rfl, List.forall_mem_cons.mpr ⟨jj_m (i := 245) rfl rfl, fun _ h => absurd h List.not_mem_nil⟩⟩
set_option maxRecDepth 20000 in
theorem jj_ld_ok_5 : ∀ e ∈ jj_ldL 5, Cond.constant (jj_R 5) e.1 e.2 ∈ jj_wl := List.forall_mem_cons.mpr ⟨jj_m (i := 684) rfl rfl, List.forall_mem_cons.mpr ⟨jj_m (i := 685) rfl rfl, List.forall_mem_cons.mpr ⟨jj_m (i := 720) rfl rfl, fun _ h => absurd h List.not_mem_nil⟩⟩⟩
set_option maxRecDepth 20000 in
theorem jj_ld_ok_6 : ∀ e ∈ jj_ldL 6, Cond.constant (jj_R 6) e.1 e.2 ∈ jj_wl := List.forall_mem_cons.mpr ⟨jj_m (i := 485) rfl rfl, List.forall_mem_cons.mpr ⟨jj_m (i := 486) rfl rfl, List.forall_mem_cons.mpr ⟨jj_m (i := 487) rfl rfl, fun _ h => absurd h List.not_mem_nil⟩⟩⟩
theorem jj_ld_ok : ∀ c : Nat, ∀ e ∈ jj_ldL c, Cond.constant (jj_R c) e.1 e.2 ∈ jj_wl := fun c => match c with
  | 0 => fun _ h => absurd h List.not_mem_nil
  | 1 => fun _ h => absurd h List.not_mem_nil
  | 2 => jj_ld_ok_2
  | 3 => jj_ld_ok_3
  | 4 => jj_ld_ok_4
  | 5 => jj_ld_ok_5
  | 6 => jj_ld_ok_6
  | 7 => fun _ h => absurd h List.not_mem_nil
  | 8 => fun _ h => absurd h List.not_mem_nil
  | 9 => fun _ h => absurd h List.not_mem_nil
  | _ + 10 => fun _ h => absurd h List.not_mem_nil
set_option maxRecDepth 20000 in
theorem jj_ll_ok_1 : ∀ e ∈ jj_llL 1, Cond.constantLong (jj_R 1) e.1 e.2 ∈ jj_wl := List.forall_mem_cons.mpr ⟨jj_m (i := 554) rfl rfl, fun _ h => absurd h List.not_mem_nil⟩
set_option maxRecDepth 20000 in
theorem jj_ll_ok_4 : ∀ e ∈ jj_llL 4, Cond.constantLong (jj_R 4) e.1 e.2 ∈ jj_wl := List.forall_mem_cons.mpr ⟨jj_m (i := 536) rfl rfl, fun _ h => absurd h List.not_mem_nil⟩
set_option maxRecDepth 20000 in
theorem jj_ll_ok_5 : ∀ e ∈ jj_llL 5, Cond.constantLong (jj_R 5) e.1 e.2 ∈ jj_wl := List.forall_mem_cons.mpr ⟨jj_m (i := 694) rfl rfl, List.forall_mem_cons.mpr ⟨jj_m (i := 683) rfl rfl, List.forall_mem_cons.mpr ⟨jj_m (i := 678) rfl rfl, List.forall_mem_cons.mpr ⟨jj_m (i := 679) rfl rfl, List.forall_mem_cons.mpr ⟨jj_m (i := 690) rfl rfl, List.forall_mem_cons.mpr ⟨jj_m (i := 707) rfl rfl, List.forall_mem_cons.mpr ⟨jj_m (i := 829) rfl rfl, List.forall_mem_cons.mpr ⟨jj_m (i := 834) rfl rfl, List.forall_mem_cons.mpr ⟨jj_m (i := 843) rfl rfl, List.forall_mem_cons.mpr ⟨jj_m (i := 844) rfl rfl, List.forall_mem_cons.mpr ⟨jj_m (i := 845) rfl rfl, List.forall_mem_cons.mpr ⟨jj_m (i := 846) rfl rfl, fun _ h => absurd h List.not_mem_nil⟩⟩⟩⟩⟩⟩⟩⟩⟩⟩⟩⟩
theorem jj_ll_ok : ∀ c : Nat, ∀ e ∈ jj_llL c, Cond.constantLong (jj_R c) e.1 e.2 ∈ jj_wl := fun c => match c with
  | 0 => fun _ h => absurd h List.not_mem_nil
  | 1 => jj_ll_ok_1
  | 2 => fun _ h => absurd h List.not_mem_nil
  | 3 => fun _ h => absurd h List.not_mem_nil
  | 4 => jj_ll_ok_4
  | 5 => jj_ll_ok_5
  | 6 => fun _ h => absurd h List.not_mem_nil
  | 7 => fun _ h => absurd h List.not_mem_nil
  | 8 => fun _ h => absurd h List.not_mem_nil
  | 9 => fun _ h => absurd h List.not_mem_nil
  | _ + 10 => fun _ h => absurd h List.not_mem_nil
def jj_okM (M : jj_M) : Prop := plainFor M.1.1 = true ∧ Cond.code M.1.1 M.1.2 M.2.1 M.2.2.1 ∈ jj_wl ∧ jj_R M.2.2.2.1 = M.1.1.cls ∧ Cond.initialized M.1.1.cls ∈ jj_wl ∧ M.1.1.cls ≠ "java/lang/invoke/MethodHandle" ∧ M.1.1.cls ≠ "java/lang/invoke/VarHandle" ∧ (parseMethodDescriptor M.1.1.desc).map (fun d => d.parameters.length) = some M.2.2.2.2 ∧ M.2.1 < 30
set_option maxRecDepth 20000 in
theorem okX0_addThing : jj_okM mX0_addThing := ⟨by decide +kernel, jj_m (i := 253) rfl rfl, rfl, jj_m (i := 37) rfl rfl, by decide +kernel, by decide +kernel, by decide +kernel, by decide⟩
set_option maxRecDepth 20000 in
theorem okX0_addRule : jj_okM mX0_addRule := ⟨by decide +kernel, jj_m (i := 268) rfl rfl, rfl, jj_m (i := 37) rfl rfl, by decide +kernel, by decide +kernel, by decide +kernel, by decide⟩
set_option maxRecDepth 20000 in
theorem okX0_pair : jj_okM mX0_pair := ⟨by decide +kernel, jj_m (i := 272) rfl rfl, rfl, jj_m (i := 37) rfl rfl, by decide +kernel, by decide +kernel, by decide +kernel, by decide⟩
set_option maxRecDepth 20000 in
theorem okX0_rulesOn : jj_okM mX0_rulesOn := ⟨by decide +kernel, jj_m (i := 573) rfl rfl, rfl, jj_m (i := 37) rfl rfl, by decide +kernel, by decide +kernel, by decide +kernel, by decide⟩
set_option maxRecDepth 20000 in
theorem okX0_countsForShares : jj_okM mX0_countsForShares := ⟨by decide +kernel, jj_m (i := 477) rfl rfl, rfl, jj_m (i := 37) rfl rfl, by decide +kernel, by decide +kernel, by decide +kernel, by decide⟩
set_option maxRecDepth 20000 in
theorem okX1_find : jj_okM mX1_find := ⟨by decide +kernel, jj_m (i := 467) rfl rfl, rfl, jj_m (i := 39) rfl rfl, by decide +kernel, by decide +kernel, by decide +kernel, by decide⟩
set_option maxRecDepth 20000 in
theorem okX1_allCount : jj_okM mX1_allCount := ⟨by decide +kernel, jj_m (i := 470) rfl rfl, rfl, jj_m (i := 39) rfl rfl, by decide +kernel, by decide +kernel, by decide +kernel, by decide⟩
set_option maxRecDepth 20000 in
theorem okX1_has : jj_okM mX1_has := ⟨by decide +kernel, jj_m (i := 473) rfl rfl, rfl, jj_m (i := 39) rfl rfl, by decide +kernel, by decide +kernel, by decide +kernel, by decide⟩
set_option maxRecDepth 20000 in
theorem okX1_writeEquations : jj_okM mX1_writeEquations := ⟨by decide +kernel, jj_m (i := 491) rfl rfl, rfl, jj_m (i := 39) rfl rfl, by decide +kernel, by decide +kernel, by decide +kernel, by decide⟩
set_option maxRecDepth 20000 in
theorem okX1_tryCorner : jj_okM mX1_tryCorner := ⟨by decide +kernel, jj_m (i := 481) rfl rfl, rfl, jj_m (i := 39) rfl rfl, by decide +kernel, by decide +kernel, by decide +kernel, by decide⟩
set_option maxRecDepth 20000 in
theorem okX1_writePrices : jj_okM mX1_writePrices := ⟨by decide +kernel, jj_m (i := 498) rfl rfl, rfl, jj_m (i := 39) rfl rfl, by decide +kernel, by decide +kernel, by decide +kernel, by decide⟩
set_option maxRecDepth 20000 in
theorem okX1_swapDues : jj_okM mX1_swapDues := ⟨by decide +kernel, jj_m (i := 502) rfl rfl, rfl, jj_m (i := 39) rfl rfl, by decide +kernel, by decide +kernel, by decide +kernel, by decide⟩
set_option maxRecDepth 20000 in
theorem okX1_determinant : jj_okM mX1_determinant := ⟨by decide +kernel, jj_m (i := 494) rfl rfl, rfl, jj_m (i := 39) rfl rfl, by decide +kernel, by decide +kernel, by decide +kernel, by decide⟩
set_option maxRecDepth 20000 in
theorem okX1_boundAt : jj_okM mX1_boundAt := ⟨by decide +kernel, jj_m (i := 509) rfl rfl, rfl, jj_m (i := 39) rfl rfl, by decide +kernel, by decide +kernel, by decide +kernel, by decide⟩
set_option maxRecDepth 20000 in
theorem okX1_slope : jj_okM mX1_slope := ⟨by decide +kernel, jj_m (i := 513) rfl rfl, rfl, jj_m (i := 39) rfl rfl, by decide +kernel, by decide +kernel, by decide +kernel, by decide⟩
set_option maxRecDepth 20000 in
theorem okX1_leastBound : jj_okM mX1_leastBound := ⟨by decide +kernel, jj_m (i := 520) rfl rfl, rfl, jj_m (i := 39) rfl rfl, by decide +kernel, by decide +kernel, by decide +kernel, by decide⟩
set_option maxRecDepth 20000 in
theorem okX1_leastBoundFlattest : jj_okM mX1_leastBoundFlattest := ⟨by decide +kernel, jj_m (i := 540) rfl rfl, rfl, jj_m (i := 39) rfl rfl, by decide +kernel, by decide +kernel, by decide +kernel, by decide⟩
set_option maxRecDepth 20000 in
theorem okX1_reach : jj_okM mX1_reach := ⟨by decide +kernel, jj_m (i := 553) rfl rfl, rfl, jj_m (i := 39) rfl rfl, by decide +kernel, by decide +kernel, by decide +kernel, by decide⟩
set_option maxRecDepth 20000 in
theorem okX1_boundAbove : jj_okM mX1_boundAbove := ⟨by decide +kernel, jj_m (i := 524) rfl rfl, rfl, jj_m (i := 39) rfl rfl, by decide +kernel, by decide +kernel, by decide +kernel, by decide⟩
set_option maxRecDepth 20000 in
theorem okX1_slopeBelow : jj_okM mX1_slopeBelow := ⟨by decide +kernel, jj_m (i := 544) rfl rfl, rfl, jj_m (i := 39) rfl rfl, by decide +kernel, by decide +kernel, by decide +kernel, by decide⟩
set_option maxRecDepth 20000 in
theorem okX2_lookAtAll : jj_okM mX2_lookAtAll := ⟨by decide +kernel, jj_m (i := 304) rfl rfl, rfl, jj_m (i := 38) rfl rfl, by decide +kernel, by decide +kernel, by decide +kernel, by decide⟩
set_option maxRecDepth 20000 in
theorem okX2_lookAt : jj_okM mX2_lookAt := ⟨by decide +kernel, jj_m (i := 321) rfl rfl, rfl, jj_m (i := 38) rfl rfl, by decide +kernel, by decide +kernel, by decide +kernel, by decide⟩
set_option maxRecDepth 20000 in
theorem okX2_noteFitting : jj_okM mX2_noteFitting := ⟨by decide +kernel, jj_m (i := 337) rfl rfl, rfl, jj_m (i := 38) rfl rfl, by decide +kernel, by decide +kernel, by decide +kernel, by decide⟩
set_option maxRecDepth 20000 in
theorem okX2_noteBetter : jj_okM mX2_noteBetter := ⟨by decide +kernel, jj_m (i := 344) rfl rfl, rfl, jj_m (i := 38) rfl rfl, by decide +kernel, by decide +kernel, by decide +kernel, by decide⟩
set_option maxRecDepth 20000 in
theorem okX2_noteEqual : jj_okM mX2_noteEqual := ⟨by decide +kernel, jj_m (i := 348) rfl rfl, rfl, jj_m (i := 38) rfl rfl, by decide +kernel, by decide +kernel, by decide +kernel, by decide⟩
set_option maxRecDepth 20000 in
theorem okX2_greatestWith : jj_okM mX2_greatestWith := ⟨by decide +kernel, jj_m (i := 417) rfl rfl, rfl, jj_m (i := 38) rfl rfl, by decide +kernel, by decide +kernel, by decide +kernel, by decide⟩
set_option maxRecDepth 20000 in
theorem okX2_gainWithout : jj_okM mX2_gainWithout := ⟨by decide +kernel, jj_m (i := 392) rfl rfl, rfl, jj_m (i := 38) rfl rfl, by decide +kernel, by decide +kernel, by decide +kernel, by decide⟩
set_option maxRecDepth 20000 in
theorem okX2_rulesAhead : jj_okM mX2_rulesAhead := ⟨by decide +kernel, jj_m (i := 400) rfl rfl, rfl, jj_m (i := 38) rfl rfl, by decide +kernel, by decide +kernel, by decide +kernel, by decide⟩
set_option maxRecDepth 20000 in
theorem okX2_spanBottom : jj_okM mX2_spanBottom := ⟨by decide +kernel, jj_m (i := 438) rfl rfl, rfl, jj_m (i := 38) rfl rfl, by decide +kernel, by decide +kernel, by decide +kernel, by decide⟩
set_option maxRecDepth 20000 in
theorem okX2_spanTop : jj_okM mX2_spanTop := ⟨by decide +kernel, jj_m (i := 425) rfl rfl, rfl, jj_m (i := 38) rfl rfl, by decide +kernel, by decide +kernel, by decide +kernel, by decide⟩
set_option maxRecDepth 20000 in
theorem okX2_restWith : jj_okM mX2_restWith := ⟨by decide +kernel, jj_m (i := 430) rfl rfl, rfl, jj_m (i := 38) rfl rfl, by decide +kernel, by decide +kernel, by decide +kernel, by decide⟩
set_option maxRecDepth 20000 in
theorem okX3_begin : jj_okM mX3_begin := ⟨by decide +kernel, jj_m (i := 312) rfl rfl, rfl, jj_m (i := 36) rfl rfl, by decide +kernel, by decide +kernel, by decide +kernel, by decide⟩
set_option maxRecDepth 20000 in
theorem okX3_loosen : jj_okM mX3_loosen := ⟨by decide +kernel, jj_m (i := 377) rfl rfl, rfl, jj_m (i := 36) rfl rfl, by decide +kernel, by decide +kernel, by decide +kernel, by decide⟩
set_option maxRecDepth 20000 in
theorem okX3_allowOneMore : jj_okM mX3_allowOneMore := ⟨by decide +kernel, jj_m (i := 409) rfl rfl, rfl, jj_m (i := 36) rfl rfl, by decide +kernel, by decide +kernel, by decide +kernel, by decide⟩
set_option maxRecDepth 20000 in
theorem okX3_goTo : jj_okM mX3_goTo := ⟨by decide +kernel, jj_m (i := 450) rfl rfl, rfl, jj_m (i := 36) rfl rfl, by decide +kernel, by decide +kernel, by decide +kernel, by decide⟩
set_option maxRecDepth 20000 in
theorem okX3_plans : jj_okM mX3_plans := ⟨by decide +kernel, jj_m (i := 317) rfl rfl, rfl, jj_m (i := 36) rfl rfl, by decide +kernel, by decide +kernel, by decide +kernel, by decide⟩
set_option maxRecDepth 20000 in
theorem okX3_step : jj_okM mX3_step := ⟨by decide +kernel, jj_m (i := 352) rfl rfl, rfl, jj_m (i := 36) rfl rfl, by decide +kernel, by decide +kernel, by decide +kernel, by decide⟩
set_option maxRecDepth 20000 in
theorem okX3_shift : jj_okM mX3_shift := ⟨by decide +kernel, jj_m (i := 356) rfl rfl, rfl, jj_m (i := 36) rfl rfl, by decide +kernel, by decide +kernel, by decide +kernel, by decide⟩
set_option maxRecDepth 20000 in
theorem okX3_firstOver : jj_okM mX3_firstOver := ⟨by decide +kernel, jj_m (i := 325) rfl rfl, rfl, jj_m (i := 36) rfl rfl, by decide +kernel, by decide +kernel, by decide +kernel, by decide⟩
set_option maxRecDepth 20000 in
theorem okX3_load : jj_okM mX3_load := ⟨by decide +kernel, jj_m (i := 329) rfl rfl, rfl, jj_m (i := 36) rfl rfl, by decide +kernel, by decide +kernel, by decide +kernel, by decide⟩
set_option maxRecDepth 20000 in
theorem okX3_greatestFitting : jj_okM mX3_greatestFitting := ⟨by decide +kernel, jj_m (i := 381) rfl rfl, rfl, jj_m (i := 36) rfl rfl, by decide +kernel, by decide +kernel, by decide +kernel, by decide⟩
set_option maxRecDepth 20000 in
theorem okX4_thing : jj_okM mX4_thing := ⟨by decide +kernel, jj_m (i := 237) rfl rfl, rfl, jj_m (i := 35) rfl rfl, by decide +kernel, by decide +kernel, by decide +kernel, by decide⟩
set_option maxRecDepth 20000 in
theorem okX4_rule : jj_okM mX4_rule := ⟨by decide +kernel, jj_m (i := 257) rfl rfl, rfl, jj_m (i := 35) rfl rfl, by decide +kernel, by decide +kernel, by decide +kernel, by decide⟩
set_option maxRecDepth 20000 in
theorem okX4_amount : jj_okM mX4_amount := ⟨by decide +kernel, jj_m (i := 276) rfl rfl, rfl, jj_m (i := 35) rfl rfl, by decide +kernel, by decide +kernel, by decide +kernel, by decide⟩
set_option maxRecDepth 20000 in
theorem okX4_on : jj_okM mX4_on := ⟨by decide +kernel, jj_m (i := 288) rfl rfl, rfl, jj_m (i := 35) rfl rfl, by decide +kernel, by decide +kernel, by decide +kernel, by decide⟩
set_option maxRecDepth 20000 in
theorem okX4_set : jj_okM mX4_set := ⟨by decide +kernel, jj_m (i := 292) rfl rfl, rfl, jj_m (i := 35) rfl rfl, by decide +kernel, by decide +kernel, by decide +kernel, by decide⟩
set_option maxRecDepth 20000 in
theorem okX4_value : jj_okM mX4_value := ⟨by decide +kernel, jj_m (i := 296) rfl rfl, rfl, jj_m (i := 35) rfl rfl, by decide +kernel, by decide +kernel, by decide +kernel, by decide⟩
set_option maxRecDepth 20000 in
theorem okX4_counted : jj_okM mX4_counted := ⟨by decide +kernel, jj_m (i := 360) rfl rfl, rfl, jj_m (i := 35) rfl rfl, by decide +kernel, by decide +kernel, by decide +kernel, by decide⟩
set_option maxRecDepth 20000 in
theorem okX4_first : jj_okM mX4_first := ⟨by decide +kernel, jj_m (i := 364) rfl rfl, rfl, jj_m (i := 35) rfl rfl, by decide +kernel, by decide +kernel, by decide +kernel, by decide⟩
set_option maxRecDepth 20000 in
theorem okX4_fast : jj_okM mX4_fast := ⟨by decide +kernel, jj_m (i := 368) rfl rfl, rfl, jj_m (i := 35) rfl rfl, by decide +kernel, by decide +kernel, by decide +kernel, by decide⟩
set_option maxRecDepth 20000 in
theorem okX4_price : jj_okM mX4_price := ⟨by decide +kernel, jj_m (i := 372) rfl rfl, rfl, jj_m (i := 35) rfl rfl, by decide +kernel, by decide +kernel, by decide +kernel, by decide⟩
set_option maxRecDepth 20000 in
theorem okX4_weight : jj_okM mX4_weight := ⟨by decide +kernel, jj_m (i := 388) rfl rfl, rfl, jj_m (i := 35) rfl rfl, by decide +kernel, by decide +kernel, by decide +kernel, by decide⟩
set_option maxRecDepth 20000 in
theorem okX4_rank : jj_okM mX4_rank := ⟨by decide +kernel, jj_m (i := 396) rfl rfl, rfl, jj_m (i := 35) rfl rfl, by decide +kernel, by decide +kernel, by decide +kernel, by decide⟩
set_option maxRecDepth 20000 in
theorem okX4_more : jj_okM mX4_more := ⟨by decide +kernel, jj_m (i := 405) rfl rfl, rfl, jj_m (i := 35) rfl rfl, by decide +kernel, by decide +kernel, by decide +kernel, by decide⟩
set_option maxRecDepth 20000 in
theorem okX4_must : jj_okM mX4_must := ⟨by decide +kernel, jj_m (i := 413) rfl rfl, rfl, jj_m (i := 35) rfl rfl, by decide +kernel, by decide +kernel, by decide +kernel, by decide⟩
set_option maxRecDepth 20000 in
theorem okX4_span : jj_okM mX4_span := ⟨by decide +kernel, jj_m (i := 421) rfl rfl, rfl, jj_m (i := 35) rfl rfl, by decide +kernel, by decide +kernel, by decide +kernel, by decide⟩
set_option maxRecDepth 20000 in
theorem okX4_put : jj_okM mX4_put := ⟨by decide +kernel, jj_m (i := 442) rfl rfl, rfl, jj_m (i := 35) rfl rfl, by decide +kernel, by decide +kernel, by decide +kernel, by decide⟩
set_option maxRecDepth 20000 in
theorem okX4_worth : jj_okM mX4_worth := ⟨by decide +kernel, jj_m (i := 446) rfl rfl, rfl, jj_m (i := 35) rfl rfl, by decide +kernel, by decide +kernel, by decide +kernel, by decide⟩
set_option maxRecDepth 20000 in
theorem okX4_broken : jj_okM mX4_broken := ⟨by decide +kernel, jj_m (i := 454) rfl rfl, rfl, jj_m (i := 35) rfl rfl, by decide +kernel, by decide +kernel, by decide +kernel, by decide⟩
set_option maxRecDepth 20000 in
theorem okX4_share : jj_okM mX4_share := ⟨by decide +kernel, jj_m (i := 459) rfl rfl, rfl, jj_m (i := 35) rfl rfl, by decide +kernel, by decide +kernel, by decide +kernel, by decide⟩
set_option maxRecDepth 20000 in
theorem okX4_sharePrice : jj_okM mX4_sharePrice := ⟨by decide +kernel, jj_m (i := 535) rfl rfl, rfl, jj_m (i := 35) rfl rfl, by decide +kernel, by decide +kernel, by decide +kernel, by decide⟩
set_option maxRecDepth 20000 in
theorem okX4_holds : jj_okM mX4_holds := ⟨by decide +kernel, jj_m (i := 549) rfl rfl, rfl, jj_m (i := 35) rfl rfl, by decide +kernel, by decide +kernel, by decide +kernel, by decide⟩
set_option maxRecDepth 20000 in
theorem okX4_gap : jj_okM mX4_gap := ⟨by decide +kernel, jj_m (i := 561) rfl rfl, rfl, jj_m (i := 35) rfl rfl, by decide +kernel, by decide +kernel, by decide +kernel, by decide⟩
set_option maxRecDepth 20000 in
theorem okX4_told : jj_okM mX4_told := ⟨by decide +kernel, jj_m (i := 565) rfl rfl, rfl, jj_m (i := 35) rfl rfl, by decide +kernel, by decide +kernel, by decide +kernel, by decide⟩
set_option maxRecDepth 20000 in
theorem okX4_toldCount : jj_okM mX4_toldCount := ⟨by decide +kernel, jj_m (i := 569) rfl rfl, rfl, jj_m (i := 35) rfl rfl, by decide +kernel, by decide +kernel, by decide +kernel, by decide⟩
set_option maxRecDepth 20000 in
theorem okX4_isThing : jj_okM mX4_isThing := ⟨by decide +kernel, jj_m (i := 264) rfl rfl, rfl, jj_m (i := 35) rfl rfl, by decide +kernel, by decide +kernel, by decide +kernel, by decide⟩
set_option maxRecDepth 20000 in
theorem okX4_isRule : jj_okM mX4_isRule := ⟨by decide +kernel, jj_m (i := 280) rfl rfl, rfl, jj_m (i := 35) rfl rfl, by decide +kernel, by decide +kernel, by decide +kernel, by decide⟩
set_option maxRecDepth 20000 in
theorem okX4_isWorth : jj_okM mX4_isWorth := ⟨by decide +kernel, jj_m (i := 240) rfl rfl, rfl, jj_m (i := 35) rfl rfl, by decide +kernel, by decide +kernel, by decide +kernel, by decide⟩
set_option maxRecDepth 20000 in
theorem okX4_isCount : jj_okM mX4_isCount := ⟨by decide +kernel, jj_m (i := 243) rfl rfl, rfl, jj_m (i := 35) rfl rfl, by decide +kernel, by decide +kernel, by decide +kernel, by decide⟩
set_option maxRecDepth 20000 in
theorem okX4_isLimit : jj_okM mX4_isLimit := ⟨by decide +kernel, jj_m (i := 260) rfl rfl, rfl, jj_m (i := 35) rfl rfl, by decide +kernel, by decide +kernel, by decide +kernel, by decide⟩
set_option maxRecDepth 20000 in
theorem okX4_replace : jj_okM mX4_replace := ⟨by decide +kernel, jj_m (i := 284) rfl rfl, rfl, jj_m (i := 35) rfl rfl, by decide +kernel, by decide +kernel, by decide +kernel, by decide⟩
set_option maxRecDepth 20000 in
theorem okX4_markChanged : jj_okM mX4_markChanged := ⟨by decide +kernel, jj_m (i := 249) rfl rfl, rfl, jj_m (i := 35) rfl rfl, by decide +kernel, by decide +kernel, by decide +kernel, by decide⟩
set_option maxRecDepth 20000 in
theorem okX4_freshSurvey : jj_okM mX4_freshSurvey := ⟨by decide +kernel, jj_m (i := 300) rfl rfl, rfl, jj_m (i := 35) rfl rfl, by decide +kernel, by decide +kernel, by decide +kernel, by decide⟩
set_option maxRecDepth 20000 in
theorem okX4_freshCorners : jj_okM mX4_freshCorners := ⟨by decide +kernel, jj_m (i := 463) rfl rfl, rfl, jj_m (i := 35) rfl rfl, by decide +kernel, by decide +kernel, by decide +kernel, by decide⟩
set_option maxRecDepth 20000 in
theorem okX4_inLowestTerms : jj_okM mX4_inLowestTerms := ⟨by decide +kernel, jj_m (i := 527) rfl rfl, rfl, jj_m (i := 35) rfl rfl, by decide +kernel, by decide +kernel, by decide +kernel, by decide⟩
set_option maxRecDepth 20000 in
theorem okX4_commonDivisor : jj_okM mX4_commonDivisor := ⟨by decide +kernel, jj_m (i := 531) rfl rfl, rfl, jj_m (i := 35) rfl rfl, by decide +kernel, by decide +kernel, by decide +kernel, by decide⟩
set_option maxRecDepth 20000 in
theorem okX5_in : jj_okM mX5_in := ⟨by decide +kernel, jj_m (i := 682) rfl rfl, rfl, jj_m (i := 40) rfl rfl, by decide +kernel, by decide +kernel, by decide +kernel, by decide⟩
set_option maxRecDepth 20000 in
theorem okX5_isThing : jj_okM mX5_isThing := ⟨by decide +kernel, jj_m (i := 698) rfl rfl, rfl, jj_m (i := 40) rfl rfl, by decide +kernel, by decide +kernel, by decide +kernel, by decide⟩
set_option maxRecDepth 20000 in
theorem okX5_isRule : jj_okM mX5_isRule := ⟨by decide +kernel, jj_m (i := 706) rfl rfl, rfl, jj_m (i := 40) rfl rfl, by decide +kernel, by decide +kernel, by decide +kernel, by decide⟩
set_option maxRecDepth 20000 in
theorem okX5_isLimit : jj_okM mX5_isLimit := ⟨by decide +kernel, jj_m (i := 693) rfl rfl, rfl, jj_m (i := 40) rfl rfl, by decide +kernel, by decide +kernel, by decide +kernel, by decide⟩
set_option maxRecDepth 20000 in
theorem okX5_thing : jj_okM mX5_thing := ⟨by decide +kernel, jj_m (i := 677) rfl rfl, rfl, jj_m (i := 40) rfl rfl, by decide +kernel, by decide +kernel, by decide +kernel, by decide⟩
set_option maxRecDepth 20000 in
theorem okX5_rule : jj_okM mX5_rule := ⟨by decide +kernel, jj_m (i := 689) rfl rfl, rfl, jj_m (i := 40) rfl rfl, by decide +kernel, by decide +kernel, by decide +kernel, by decide⟩
set_option maxRecDepth 20000 in
theorem okX5_amount : jj_okM mX5_amount := ⟨by decide +kernel, jj_m (i := 702) rfl rfl, rfl, jj_m (i := 40) rfl rfl, by decide +kernel, by decide +kernel, by decide +kernel, by decide⟩
set_option maxRecDepth 20000 in
theorem okX5_on : jj_okM mX5_on := ⟨by decide +kernel, jj_m (i := 711) rfl rfl, rfl, jj_m (i := 40) rfl rfl, by decide +kernel, by decide +kernel, by decide +kernel, by decide⟩
set_option maxRecDepth 20000 in
theorem okX5_set : jj_okM mX5_set := ⟨by decide +kernel, jj_m (i := 715) rfl rfl, rfl, jj_m (i := 40) rfl rfl, by decide +kernel, by decide +kernel, by decide +kernel, by decide⟩
set_option maxRecDepth 20000 in
theorem okX5_isAs : jj_okM mX5_isAs := ⟨by decide +kernel, jj_m (i := 732) rfl rfl, rfl, jj_m (i := 40) rfl rfl, by decide +kernel, by decide +kernel, by decide +kernel, by decide⟩
set_option maxRecDepth 20000 in
theorem okX5_fits : jj_okM mX5_fits := ⟨by decide +kernel, jj_m (i := 728) rfl rfl, rfl, jj_m (i := 40) rfl rfl, by decide +kernel, by decide +kernel, by decide +kernel, by decide⟩
set_option maxRecDepth 20000 in
theorem okX5_valueOf : jj_okM mX5_valueOf := ⟨by decide +kernel, jj_m (i := 740) rfl rfl, rfl, jj_m (i := 40) rfl rfl, by decide +kernel, by decide +kernel, by decide +kernel, by decide⟩
set_option maxRecDepth 20000 in
theorem okX5_look : jj_okM mX5_look := ⟨by decide +kernel, jj_m (i := 724) rfl rfl, rfl, jj_m (i := 40) rfl rfl, by decide +kernel, by decide +kernel, by decide +kernel, by decide⟩
set_option maxRecDepth 20000 in
theorem okX5_take : jj_okM mX5_take := ⟨by decide +kernel, jj_m (i := 736) rfl rfl, rfl, jj_m (i := 40) rfl rfl, by decide +kernel, by decide +kernel, by decide +kernel, by decide⟩
set_option maxRecDepth 20000 in
theorem okX5_value : jj_okM mX5_value := ⟨by decide +kernel, jj_m (i := 719) rfl rfl, rfl, jj_m (i := 40) rfl rfl, by decide +kernel, by decide +kernel, by decide +kernel, by decide⟩
set_option maxRecDepth 20000 in
theorem okX5_counted : jj_okM mX5_counted := ⟨by decide +kernel, jj_m (i := 744) rfl rfl, rfl, jj_m (i := 40) rfl rfl, by decide +kernel, by decide +kernel, by decide +kernel, by decide⟩
set_option maxRecDepth 20000 in
theorem okX5_first : jj_okM mX5_first := ⟨by decide +kernel, jj_m (i := 748) rfl rfl, rfl, jj_m (i := 40) rfl rfl, by decide +kernel, by decide +kernel, by decide +kernel, by decide⟩
set_option maxRecDepth 20000 in
theorem okX5_fast : jj_okM mX5_fast := ⟨by decide +kernel, jj_m (i := 752) rfl rfl, rfl, jj_m (i := 40) rfl rfl, by decide +kernel, by decide +kernel, by decide +kernel, by decide⟩
set_option maxRecDepth 20000 in
theorem okX5_price : jj_okM mX5_price := ⟨by decide +kernel, jj_m (i := 756) rfl rfl, rfl, jj_m (i := 40) rfl rfl, by decide +kernel, by decide +kernel, by decide +kernel, by decide⟩
set_option maxRecDepth 20000 in
theorem okX5_weight : jj_okM mX5_weight := ⟨by decide +kernel, jj_m (i := 761) rfl rfl, rfl, jj_m (i := 40) rfl rfl, by decide +kernel, by decide +kernel, by decide +kernel, by decide⟩
set_option maxRecDepth 20000 in
theorem okX5_rank : jj_okM mX5_rank := ⟨by decide +kernel, jj_m (i := 765) rfl rfl, rfl, jj_m (i := 40) rfl rfl, by decide +kernel, by decide +kernel, by decide +kernel, by decide⟩
set_option maxRecDepth 20000 in
theorem okX5_more : jj_okM mX5_more := ⟨by decide +kernel, jj_m (i := 770) rfl rfl, rfl, jj_m (i := 40) rfl rfl, by decide +kernel, by decide +kernel, by decide +kernel, by decide⟩
set_option maxRecDepth 20000 in
theorem okX5_must : jj_okM mX5_must := ⟨by decide +kernel, jj_m (i := 774) rfl rfl, rfl, jj_m (i := 40) rfl rfl, by decide +kernel, by decide +kernel, by decide +kernel, by decide⟩
set_option maxRecDepth 20000 in
theorem okX5_floor : jj_okM mX5_floor := ⟨by decide +kernel, jj_m (i := 781) rfl rfl, rfl, jj_m (i := 40) rfl rfl, by decide +kernel, by decide +kernel, by decide +kernel, by decide⟩
set_option maxRecDepth 20000 in
theorem okX5_span : jj_okM mX5_span := ⟨by decide +kernel, jj_m (i := 778) rfl rfl, rfl, jj_m (i := 40) rfl rfl, by decide +kernel, by decide +kernel, by decide +kernel, by decide⟩
set_option maxRecDepth 20000 in
theorem okX5_put : jj_okM mX5_put := ⟨by decide +kernel, jj_m (i := 785) rfl rfl, rfl, jj_m (i := 40) rfl rfl, by decide +kernel, by decide +kernel, by decide +kernel, by decide⟩
set_option maxRecDepth 20000 in
theorem okX5_worth : jj_okM mX5_worth := ⟨by decide +kernel, jj_m (i := 789) rfl rfl, rfl, jj_m (i := 40) rfl rfl, by decide +kernel, by decide +kernel, by decide +kernel, by decide⟩
set_option maxRecDepth 20000 in
theorem okX5_broken : jj_okM mX5_broken := ⟨by decide +kernel, jj_m (i := 793) rfl rfl, rfl, jj_m (i := 40) rfl rfl, by decide +kernel, by decide +kernel, by decide +kernel, by decide⟩
set_option maxRecDepth 20000 in
theorem okX5_addRow : jj_okM mX5_addRow := ⟨by decide +kernel, jj_m (i := 809) rfl rfl, rfl, jj_m (i := 40) rfl rfl, by decide +kernel, by decide +kernel, by decide +kernel, by decide⟩
set_option maxRecDepth 20000 in
theorem okX5_rowsNow : jj_okM mX5_rowsNow := ⟨by decide +kernel, jj_m (i := 805) rfl rfl, rfl, jj_m (i := 40) rfl rfl, by decide +kernel, by decide +kernel, by decide +kernel, by decide⟩
set_option maxRecDepth 20000 in
theorem okX5_determinant : jj_okM mX5_determinant := ⟨by decide +kernel, jj_m (i := 817) rfl rfl, rfl, jj_m (i := 40) rfl rfl, by decide +kernel, by decide +kernel, by decide +kernel, by decide⟩
set_option maxRecDepth 20000 in
theorem okX5_isPriced : jj_okM mX5_isPriced := ⟨by decide +kernel, jj_m (i := 813) rfl rfl, rfl, jj_m (i := 40) rfl rfl, by decide +kernel, by decide +kernel, by decide +kernel, by decide⟩
set_option maxRecDepth 20000 in
theorem okX5_shares : jj_okM mX5_shares := ⟨by decide +kernel, jj_m (i := 801) rfl rfl, rfl, jj_m (i := 40) rfl rfl, by decide +kernel, by decide +kernel, by decide +kernel, by decide⟩
set_option maxRecDepth 20000 in
theorem okX5_part : jj_okM mX5_part := ⟨by decide +kernel, jj_m (i := 820) rfl rfl, rfl, jj_m (i := 40) rfl rfl, by decide +kernel, by decide +kernel, by decide +kernel, by decide⟩
set_option maxRecDepth 20000 in
theorem okX5_share : jj_okM mX5_share := ⟨by decide +kernel, jj_m (i := 797) rfl rfl, rfl, jj_m (i := 40) rfl rfl, by decide +kernel, by decide +kernel, by decide +kernel, by decide⟩
set_option maxRecDepth 20000 in
theorem okX5_isPrice : jj_okM mX5_isPrice := ⟨by decide +kernel, jj_m (i := 828) rfl rfl, rfl, jj_m (i := 40) rfl rfl, by decide +kernel, by decide +kernel, by decide +kernel, by decide⟩
set_option maxRecDepth 20000 in
theorem okX5_sharePrice : jj_okM mX5_sharePrice := ⟨by decide +kernel, jj_m (i := 824) rfl rfl, rfl, jj_m (i := 40) rfl rfl, by decide +kernel, by decide +kernel, by decide +kernel, by decide⟩
set_option maxRecDepth 20000 in
theorem okX5_holds : jj_okM mX5_holds := ⟨by decide +kernel, jj_m (i := 833) rfl rfl, rfl, jj_m (i := 40) rfl rfl, by decide +kernel, by decide +kernel, by decide +kernel, by decide⟩
set_option maxRecDepth 20000 in
theorem okX5_gap : jj_okM mX5_gap := ⟨by decide +kernel, jj_m (i := 838) rfl rfl, rfl, jj_m (i := 40) rfl rfl, by decide +kernel, by decide +kernel, by decide +kernel, by decide⟩
set_option maxRecDepth 20000 in
theorem okX5_told : jj_okM mX5_told := ⟨by decide +kernel, jj_m (i := 842) rfl rfl, rfl, jj_m (i := 40) rfl rfl, by decide +kernel, by decide +kernel, by decide +kernel, by decide⟩
set_option maxRecDepth 20000 in
theorem okJ6_bitCount_0f7a4 : jj_okM mJ6_bitCount_0f7a4 := ⟨by decide +kernel, jj_m (i := 484) rfl rfl, rfl, jj_m (i := 43) rfl rfl, by decide +kernel, by decide +kernel, by decide +kernel, by decide⟩
set_option maxRecDepth 20000 in
theorem okJ9_floorDiv_7cf53 : jj_okM mJ9_floorDiv_7cf53 := ⟨by decide +kernel, jj_m (i := 433) rfl rfl, rfl, jj_m (i := 42) rfl rfl, by decide +kernel, by decide +kernel, by decide +kernel, by decide⟩
set_option maxRecDepth 20000 in
theorem okJ9_abs_067f4 : jj_okM mJ9_abs_067f4 := ⟨by decide +kernel, jj_m (i := 505) rfl rfl, rfl, jj_m (i := 42) rfl rfl, by decide +kernel, by decide +kernel, by decide +kernel, by decide⟩
set_option maxRecDepth 20000 in
theorem okJ9_max_7cf53 : jj_okM mJ9_max_7cf53 := ⟨by decide +kernel, jj_m (i := 340) rfl rfl, rfl, jj_m (i := 42) rfl rfl, by decide +kernel, by decide +kernel, by decide +kernel, by decide⟩
set_option maxRecDepth 20000 in
theorem okJ9_max_f86c9 : jj_okM mJ9_max_f86c9 := ⟨by decide +kernel, jj_m (i := 516) rfl rfl, rfl, jj_m (i := 42) rfl rfl, by decide +kernel, by decide +kernel, by decide +kernel, by decide⟩
set_option maxRecDepth 20000 in
theorem okJ9_min_7cf53 : jj_okM mJ9_min_7cf53 := ⟨by decide +kernel, jj_m (i := 332) rfl rfl, rfl, jj_m (i := 42) rfl rfl, by decide +kernel, by decide +kernel, by decide +kernel, by decide⟩
set_option maxRecDepth 20000 in
theorem okJ9_min_f86c9 : jj_okM mJ9_min_f86c9 := ⟨by decide +kernel, jj_m (i := 557) rfl rfl, rfl, jj_m (i := 42) rfl rfl, by decide +kernel, by decide +kernel, by decide +kernel, by decide⟩
set_option maxRecDepth 20000 in
theorem okJ7_fill_53178 : jj_okM mJ7_fill_53178 := ⟨by decide +kernel, jj_m (i := 308) rfl rfl, rfl, jj_m (i := 41) rfl rfl, by decide +kernel, by decide +kernel, by decide +kernel, by decide⟩
set_option maxRecDepth 20000 in
theorem jj_mv_ok_1 : ∀ e ∈ jj_mvL 1, jj_okM e.2 ∧ Cond.methodLink (jj_R 1) e.1 e.2.1.1 ∈ jj_wl ∧ Cond.instanceMethod e.2.1.1 ∈ jj_wl ∧ Cond.selects e.2.1.1.cls e.2.1.1 e.2.1.1 ∈ jj_wl := List.forall_mem_cons.mpr ⟨⟨okX1_tryCorner, jj_m (i := 478) rfl rfl, jj_m (i := 480) rfl rfl, jj_m (i := 13) rfl rfl⟩, List.forall_mem_cons.mpr ⟨⟨okX0_countsForShares, jj_m (i := 474) rfl rfl, jj_m (i := 475) rfl rfl, jj_m (i := 476) rfl rfl⟩, List.forall_mem_cons.mpr ⟨⟨okX1_writeEquations, jj_m (i := 488) rfl rfl, jj_m (i := 490) rfl rfl, jj_m (i := 14) rfl rfl⟩, List.forall_mem_cons.mpr ⟨⟨okX1_writePrices, jj_m (i := 495) rfl rfl, jj_m (i := 497) rfl rfl, jj_m (i := 15) rfl rfl⟩, List.forall_mem_cons.mpr ⟨⟨okX1_boundAt, jj_m (i := 506) rfl rfl, jj_m (i := 508) rfl rfl, jj_m (i := 17) rfl rfl⟩, List.forall_mem_cons.mpr ⟨⟨okX1_swapDues, jj_m (i := 499) rfl rfl, jj_m (i := 501) rfl rfl, jj_m (i := 16) rfl rfl⟩, List.forall_mem_cons.mpr ⟨⟨okX1_slope, jj_m (i := 510) rfl rfl, jj_m (i := 511) rfl rfl, jj_m (i := 512) rfl rfl⟩, List.forall_mem_cons.mpr ⟨⟨okX1_boundAbove, jj_m (i := 521) rfl rfl, jj_m (i := 523) rfl rfl, jj_m (i := 18) rfl rfl⟩, List.forall_mem_cons.mpr ⟨⟨okX1_slopeBelow, jj_m (i := 541) rfl rfl, jj_m (i := 543) rfl rfl, jj_m (i := 19) rfl rfl⟩, fun _ h => absurd h List.not_mem_nil⟩⟩⟩⟩⟩⟩⟩⟩⟩
set_option maxRecDepth 20000 in
theorem jj_mv_ok_2 : ∀ e ∈ jj_mvL 2, jj_okM e.2 ∧ Cond.methodLink (jj_R 2) e.1 e.2.1.1 ∈ jj_wl ∧ Cond.instanceMethod e.2.1.1 ∈ jj_wl ∧ Cond.selects e.2.1.1.cls e.2.1.1 e.2.1.1 ∈ jj_wl := List.forall_mem_cons.mpr ⟨⟨okX3_begin, jj_m (i := 309) rfl rfl, jj_m (i := 310) rfl rfl, jj_m (i := 311) rfl rfl⟩, List.forall_mem_cons.mpr ⟨⟨okX3_plans, jj_m (i := 314) rfl rfl, jj_m (i := 315) rfl rfl, jj_m (i := 316) rfl rfl⟩, List.forall_mem_cons.mpr ⟨⟨okX2_lookAt, jj_m (i := 318) rfl rfl, jj_m (i := 320) rfl rfl, jj_m (i := 5) rfl rfl⟩, List.forall_mem_cons.mpr ⟨⟨okX3_step, jj_m (i := 349) rfl rfl, jj_m (i := 350) rfl rfl, jj_m (i := 351) rfl rfl⟩, List.forall_mem_cons.mpr ⟨⟨okX3_firstOver, jj_m (i := 322) rfl rfl, jj_m (i := 323) rfl rfl, jj_m (i := 324) rfl rfl⟩, List.forall_mem_cons.mpr ⟨⟨okX2_noteFitting, jj_m (i := 334) rfl rfl, jj_m (i := 336) rfl rfl, jj_m (i := 7) rfl rfl⟩, List.forall_mem_cons.mpr ⟨⟨okX2_noteBetter, jj_m (i := 341) rfl rfl, jj_m (i := 343) rfl rfl, jj_m (i := 8) rfl rfl⟩, List.forall_mem_cons.mpr ⟨⟨okX2_noteEqual, jj_m (i := 345) rfl rfl, jj_m (i := 347) rfl rfl, jj_m (i := 9) rfl rfl⟩, List.forall_mem_cons.mpr ⟨⟨okX2_gainWithout, jj_m (i := 401) rfl rfl, jj_m (i := 390) rfl rfl, jj_m (i := 391) rfl rfl⟩, List.forall_mem_cons.mpr ⟨⟨okX2_greatestWith, jj_m (i := 426) rfl rfl, jj_m (i := 415) rfl rfl, jj_m (i := 416) rfl rfl⟩, List.forall_mem_cons.mpr ⟨⟨okX2_restWith, jj_m (i := 427) rfl rfl, jj_m (i := 429) rfl rfl, jj_m (i := 11) rfl rfl⟩, fun _ h => absurd h List.not_mem_nil⟩⟩⟩⟩⟩⟩⟩⟩⟩⟩⟩
set_option maxRecDepth 20000 in
theorem jj_mv_ok_3 : ∀ e ∈ jj_mvL 3, jj_okM e.2 ∧ Cond.methodLink (jj_R 3) e.1 e.2.1.1 ∈ jj_wl ∧ Cond.instanceMethod e.2.1.1 ∈ jj_wl ∧ Cond.selects e.2.1.1.cls e.2.1.1 e.2.1.1 ∈ jj_wl := List.forall_mem_cons.mpr ⟨⟨okX3_shift, jj_m (i := 353) rfl rfl, jj_m (i := 355) rfl rfl, jj_m (i := 10) rfl rfl⟩, List.forall_mem_cons.mpr ⟨⟨okX3_load, jj_m (i := 326) rfl rfl, jj_m (i := 328) rfl rfl, jj_m (i := 6) rfl rfl⟩, List.forall_mem_cons.mpr ⟨⟨okX3_plans, jj_m (i := 382) rfl rfl, jj_m (i := 315) rfl rfl, jj_m (i := 316) rfl rfl⟩, List.forall_mem_cons.mpr ⟨⟨okX3_firstOver, jj_m (i := 383) rfl rfl, jj_m (i := 323) rfl rfl, jj_m (i := 324) rfl rfl⟩, List.forall_mem_cons.mpr ⟨⟨okX3_step, jj_m (i := 384) rfl rfl, jj_m (i := 350) rfl rfl, jj_m (i := 351) rfl rfl⟩, fun _ h => absurd h List.not_mem_nil⟩⟩⟩⟩⟩
set_option maxRecDepth 20000 in
theorem jj_mv_ok_4 : ∀ e ∈ jj_mvL 4, jj_okM e.2 ∧ Cond.methodLink (jj_R 4) e.1 e.2.1.1 ∈ jj_wl ∧ Cond.instanceMethod e.2.1.1 ∈ jj_wl ∧ Cond.selects e.2.1.1.cls e.2.1.1 e.2.1.1 ∈ jj_wl := List.forall_mem_cons.mpr ⟨⟨okX4_markChanged, jj_m (i := 246) rfl rfl, jj_m (i := 248) rfl rfl, jj_m (i := 0) rfl rfl⟩, List.forall_mem_cons.mpr ⟨⟨okX0_addThing, jj_m (i := 250) rfl rfl, jj_m (i := 251) rfl rfl, jj_m (i := 252) rfl rfl⟩, List.forall_mem_cons.mpr ⟨⟨okX4_isThing, jj_m (i := 261) rfl rfl, jj_m (i := 263) rfl rfl, jj_m (i := 1) rfl rfl⟩, List.forall_mem_cons.mpr ⟨⟨okX0_addRule, jj_m (i := 265) rfl rfl, jj_m (i := 266) rfl rfl, jj_m (i := 267) rfl rfl⟩, List.forall_mem_cons.mpr ⟨⟨okX0_pair, jj_m (i := 269) rfl rfl, jj_m (i := 270) rfl rfl, jj_m (i := 271) rfl rfl⟩, List.forall_mem_cons.mpr ⟨⟨okX4_isRule, jj_m (i := 277) rfl rfl, jj_m (i := 279) rfl rfl, jj_m (i := 2) rfl rfl⟩, List.forall_mem_cons.mpr ⟨⟨okX4_replace, jj_m (i := 281) rfl rfl, jj_m (i := 283) rfl rfl, jj_m (i := 3) rfl rfl⟩, List.forall_mem_cons.mpr ⟨⟨okX4_freshSurvey, jj_m (i := 297) rfl rfl, jj_m (i := 299) rfl rfl, jj_m (i := 4) rfl rfl⟩, List.forall_mem_cons.mpr ⟨⟨okX3_begin, jj_m (i := 373) rfl rfl, jj_m (i := 310) rfl rfl, jj_m (i := 311) rfl rfl⟩, List.forall_mem_cons.mpr ⟨⟨okX3_loosen, jj_m (i := 374) rfl rfl, jj_m (i := 375) rfl rfl, jj_m (i := 376) rfl rfl⟩, List.forall_mem_cons.mpr ⟨⟨okX3_greatestFitting, jj_m (i := 378) rfl rfl, jj_m (i := 379) rfl rfl, jj_m (i := 380) rfl rfl⟩, List.forall_mem_cons.mpr ⟨⟨okX2_gainWithout, jj_m (i := 389) rfl rfl, jj_m (i := 390) rfl rfl, jj_m (i := 391) rfl rfl⟩, List.forall_mem_cons.mpr ⟨⟨okX2_rulesAhead, jj_m (i := 397) rfl rfl, jj_m (i := 398) rfl rfl, jj_m (i := 399) rfl rfl⟩, List.forall_mem_cons.mpr ⟨⟨okX3_allowOneMore, jj_m (i := 406) rfl rfl, jj_m (i := 407) rfl rfl, jj_m (i := 408) rfl rfl⟩, List.forall_mem_cons.mpr ⟨⟨okX2_greatestWith, jj_m (i := 414) rfl rfl, jj_m (i := 415) rfl rfl, jj_m (i := 416) rfl rfl⟩, List.forall_mem_cons.mpr ⟨⟨okX2_spanTop, jj_m (i := 422) rfl rfl, jj_m (i := 423) rfl rfl, jj_m (i := 424) rfl rfl⟩, List.forall_mem_cons.mpr ⟨⟨okX2_spanBottom, jj_m (i := 435) rfl rfl, jj_m (i := 436) rfl rfl, jj_m (i := 437) rfl rfl⟩, List.forall_mem_cons.mpr ⟨⟨okX3_goTo, jj_m (i := 447) rfl rfl, jj_m (i := 448) rfl rfl, jj_m (i := 449) rfl rfl⟩, List.forall_mem_cons.mpr ⟨⟨okX3_firstOver, jj_m (i := 455) rfl rfl, jj_m (i := 323) rfl rfl, jj_m (i := 324) rfl rfl⟩, List.forall_mem_cons.mpr ⟨⟨okX4_freshCorners, jj_m (i := 460) rfl rfl, jj_m (i := 462) rfl rfl, jj_m (i := 12) rfl rfl⟩, List.forall_mem_cons.mpr ⟨⟨okX1_leastBound, jj_m (i := 517) rfl rfl, jj_m (i := 518) rfl rfl, jj_m (i := 519) rfl rfl⟩, List.forall_mem_cons.mpr ⟨⟨okX1_leastBoundFlattest, jj_m (i := 537) rfl rfl, jj_m (i := 538) rfl rfl, jj_m (i := 539) rfl rfl⟩, List.forall_mem_cons.mpr ⟨⟨okX1_slope, jj_m (i := 545) rfl rfl, jj_m (i := 511) rfl rfl, jj_m (i := 512) rfl rfl⟩, List.forall_mem_cons.mpr ⟨⟨okX1_reach, jj_m (i := 550) rfl rfl, jj_m (i := 551) rfl rfl, jj_m (i := 552) rfl rfl⟩, List.forall_mem_cons.mpr ⟨⟨okX4_toldCount, jj_m (i := 566) rfl rfl, jj_m (i := 568) rfl rfl, jj_m (i := 20) rfl rfl⟩, List.forall_mem_cons.mpr ⟨⟨okX0_rulesOn, jj_m (i := 570) rfl rfl, jj_m (i := 571) rfl rfl, jj_m (i := 572) rfl rfl⟩, List.forall_mem_cons.mpr ⟨⟨okX2_lookAtAll, jj_m (i := 301) rfl rfl, jj_m (i := 302) rfl rfl, jj_m (i := 303) rfl rfl⟩, List.forall_mem_cons.mpr ⟨⟨okX1_find, jj_m (i := 464) rfl rfl, jj_m (i := 465) rfl rfl, jj_m (i := 466) rfl rfl⟩, fun _ h => absurd h List.not_mem_nil⟩⟩⟩⟩⟩⟩⟩⟩⟩⟩⟩⟩⟩⟩⟩⟩⟩⟩⟩⟩⟩⟩⟩⟩⟩⟩⟩⟩
set_option maxRecDepth 20000 in
theorem jj_mv_ok_5 : ∀ e ∈ jj_mvL 5, jj_okM e.2 ∧ Cond.methodLink (jj_R 5) e.1 e.2.1.1 ∈ jj_wl ∧ Cond.instanceMethod e.2.1.1 ∈ jj_wl ∧ Cond.selects e.2.1.1.cls e.2.1.1 e.2.1.1 ∈ jj_wl := List.forall_mem_cons.mpr ⟨⟨okX5_isThing, jj_m (i := 695) rfl rfl, jj_m (i := 697) rfl rfl, jj_m (i := 21) rfl rfl⟩, List.forall_mem_cons.mpr ⟨⟨okX5_isRule, jj_m (i := 703) rfl rfl, jj_m (i := 705) rfl rfl, jj_m (i := 22) rfl rfl⟩, List.forall_mem_cons.mpr ⟨⟨okX5_isAs, jj_m (i := 729) rfl rfl, jj_m (i := 731) rfl rfl, jj_m (i := 25) rfl rfl⟩, List.forall_mem_cons.mpr ⟨⟨okX5_fits, jj_m (i := 725) rfl rfl, jj_m (i := 727) rfl rfl, jj_m (i := 24) rfl rfl⟩, List.forall_mem_cons.mpr ⟨⟨okX5_take, jj_m (i := 733) rfl rfl, jj_m (i := 735) rfl rfl, jj_m (i := 26) rfl rfl⟩, List.forall_mem_cons.mpr ⟨⟨okX5_valueOf, jj_m (i := 737) rfl rfl, jj_m (i := 739) rfl rfl, jj_m (i := 27) rfl rfl⟩, List.forall_mem_cons.mpr ⟨⟨okX5_look, jj_m (i := 721) rfl rfl, jj_m (i := 723) rfl rfl, jj_m (i := 23) rfl rfl⟩, List.forall_mem_cons.mpr ⟨⟨okX5_value, jj_m (i := 757) rfl rfl, jj_m (i := 717) rfl rfl, jj_m (i := 718) rfl rfl⟩, List.forall_mem_cons.mpr ⟨⟨okX5_weight, jj_m (i := 766) rfl rfl, jj_m (i := 759) rfl rfl, jj_m (i := 760) rfl rfl⟩, List.forall_mem_cons.mpr ⟨⟨okX5_addRow, jj_m (i := 806) rfl rfl, jj_m (i := 808) rfl rfl, jj_m (i := 30) rfl rfl⟩, List.forall_mem_cons.mpr ⟨⟨okX5_determinant, jj_m (i := 814) rfl rfl, jj_m (i := 816) rfl rfl, jj_m (i := 32) rfl rfl⟩, List.forall_mem_cons.mpr ⟨⟨okX5_rowsNow, jj_m (i := 802) rfl rfl, jj_m (i := 804) rfl rfl, jj_m (i := 29) rfl rfl⟩, List.forall_mem_cons.mpr ⟨⟨okX5_isPriced, jj_m (i := 810) rfl rfl, jj_m (i := 812) rfl rfl, jj_m (i := 31) rfl rfl⟩, List.forall_mem_cons.mpr ⟨⟨okX5_shares, jj_m (i := 798) rfl rfl, jj_m (i := 800) rfl rfl, jj_m (i := 28) rfl rfl⟩, List.forall_mem_cons.mpr ⟨⟨okX5_isPrice, jj_m (i := 825) rfl rfl, jj_m (i := 827) rfl rfl, jj_m (i := 33) rfl rfl⟩, fun _ h => absurd h List.not_mem_nil⟩⟩⟩⟩⟩⟩⟩⟩⟩⟩⟩⟩⟩⟩⟩
set_option maxRecDepth 20000 in
theorem jj_mv_ok_8 : ∀ e ∈ jj_mvL 8, jj_okM e.2 ∧ Cond.methodLink (jj_R 8) e.1 e.2.1.1 ∈ jj_wl ∧ Cond.instanceMethod e.2.1.1 ∈ jj_wl ∧ Cond.selects e.2.1.1.cls e.2.1.1 e.2.1.1 ∈ jj_wl := List.forall_mem_cons.mpr ⟨⟨okX4_thing, jj_m (i := 234) rfl rfl, jj_m (i := 235) rfl rfl, jj_m (i := 236) rfl rfl⟩, List.forall_mem_cons.mpr ⟨⟨okX5_thing, jj_m (i := 674) rfl rfl, jj_m (i := 675) rfl rfl, jj_m (i := 676) rfl rfl⟩, List.forall_mem_cons.mpr ⟨⟨okX4_rule, jj_m (i := 254) rfl rfl, jj_m (i := 255) rfl rfl, jj_m (i := 256) rfl rfl⟩, List.forall_mem_cons.mpr ⟨⟨okX5_rule, jj_m (i := 686) rfl rfl, jj_m (i := 687) rfl rfl, jj_m (i := 688) rfl rfl⟩, List.forall_mem_cons.mpr ⟨⟨okX4_amount, jj_m (i := 273) rfl rfl, jj_m (i := 274) rfl rfl, jj_m (i := 275) rfl rfl⟩, List.forall_mem_cons.mpr ⟨⟨okX5_amount, jj_m (i := 699) rfl rfl, jj_m (i := 700) rfl rfl, jj_m (i := 701) rfl rfl⟩, List.forall_mem_cons.mpr ⟨⟨okX4_on, jj_m (i := 285) rfl rfl, jj_m (i := 286) rfl rfl, jj_m (i := 287) rfl rfl⟩, List.forall_mem_cons.mpr ⟨⟨okX5_on, jj_m (i := 708) rfl rfl, jj_m (i := 709) rfl rfl, jj_m (i := 710) rfl rfl⟩, List.forall_mem_cons.mpr ⟨⟨okX4_set, jj_m (i := 289) rfl rfl, jj_m (i := 290) rfl rfl, jj_m (i := 291) rfl rfl⟩, List.forall_mem_cons.mpr ⟨⟨okX5_set, jj_m (i := 712) rfl rfl, jj_m (i := 713) rfl rfl, jj_m (i := 714) rfl rfl⟩, List.forall_mem_cons.mpr ⟨⟨okX4_value, jj_m (i := 293) rfl rfl, jj_m (i := 294) rfl rfl, jj_m (i := 295) rfl rfl⟩, List.forall_mem_cons.mpr ⟨⟨okX5_value, jj_m (i := 716) rfl rfl, jj_m (i := 717) rfl rfl, jj_m (i := 718) rfl rfl⟩, List.forall_mem_cons.mpr ⟨⟨okX4_counted, jj_m (i := 357) rfl rfl, jj_m (i := 358) rfl rfl, jj_m (i := 359) rfl rfl⟩, List.forall_mem_cons.mpr ⟨⟨okX5_counted, jj_m (i := 741) rfl rfl, jj_m (i := 742) rfl rfl, jj_m (i := 743) rfl rfl⟩, List.forall_mem_cons.mpr ⟨⟨okX4_first, jj_m (i := 361) rfl rfl, jj_m (i := 362) rfl rfl, jj_m (i := 363) rfl rfl⟩, List.forall_mem_cons.mpr ⟨⟨okX5_first, jj_m (i := 745) rfl rfl, jj_m (i := 746) rfl rfl, jj_m (i := 747) rfl rfl⟩, List.forall_mem_cons.mpr ⟨⟨okX4_fast, jj_m (i := 365) rfl rfl, jj_m (i := 366) rfl rfl, jj_m (i := 367) rfl rfl⟩, List.forall_mem_cons.mpr ⟨⟨okX5_fast, jj_m (i := 749) rfl rfl, jj_m (i := 750) rfl rfl, jj_m (i := 751) rfl rfl⟩, List.forall_mem_cons.mpr ⟨⟨okX4_price, jj_m (i := 369) rfl rfl, jj_m (i := 370) rfl rfl, jj_m (i := 371) rfl rfl⟩, List.forall_mem_cons.mpr ⟨⟨okX5_price, jj_m (i := 753) rfl rfl, jj_m (i := 754) rfl rfl, jj_m (i := 755) rfl rfl⟩, List.forall_mem_cons.mpr ⟨⟨okX4_weight, jj_m (i := 385) rfl rfl, jj_m (i := 386) rfl rfl, jj_m (i := 387) rfl rfl⟩, List.forall_mem_cons.mpr ⟨⟨okX5_weight, jj_m (i := 758) rfl rfl, jj_m (i := 759) rfl rfl, jj_m (i := 760) rfl rfl⟩, List.forall_mem_cons.mpr ⟨⟨okX4_rank, jj_m (i := 393) rfl rfl, jj_m (i := 394) rfl rfl, jj_m (i := 395) rfl rfl⟩, List.forall_mem_cons.mpr ⟨⟨okX5_rank, jj_m (i := 762) rfl rfl, jj_m (i := 763) rfl rfl, jj_m (i := 764) rfl rfl⟩, List.forall_mem_cons.mpr ⟨⟨okX4_more, jj_m (i := 402) rfl rfl, jj_m (i := 403) rfl rfl, jj_m (i := 404) rfl rfl⟩, List.forall_mem_cons.mpr ⟨⟨okX5_more, jj_m (i := 767) rfl rfl, jj_m (i := 768) rfl rfl, jj_m (i := 769) rfl rfl⟩, List.forall_mem_cons.mpr ⟨⟨okX4_must, jj_m (i := 410) rfl rfl, jj_m (i := 411) rfl rfl, jj_m (i := 412) rfl rfl⟩, List.forall_mem_cons.mpr ⟨⟨okX5_must, jj_m (i := 771) rfl rfl, jj_m (i := 772) rfl rfl, jj_m (i := 773) rfl rfl⟩, List.forall_mem_cons.mpr ⟨⟨okX4_span, jj_m (i := 418) rfl rfl, jj_m (i := 419) rfl rfl, jj_m (i := 420) rfl rfl⟩, List.forall_mem_cons.mpr ⟨⟨okX5_span, jj_m (i := 775) rfl rfl, jj_m (i := 776) rfl rfl, jj_m (i := 777) rfl rfl⟩, List.forall_mem_cons.mpr ⟨⟨okX4_put, jj_m (i := 439) rfl rfl, jj_m (i := 440) rfl rfl, jj_m (i := 441) rfl rfl⟩, List.forall_mem_cons.mpr ⟨⟨okX5_put, jj_m (i := 782) rfl rfl, jj_m (i := 783) rfl rfl, jj_m (i := 784) rfl rfl⟩, List.forall_mem_cons.mpr ⟨⟨okX4_worth, jj_m (i := 443) rfl rfl, jj_m (i := 444) rfl rfl, jj_m (i := 445) rfl rfl⟩, List.forall_mem_cons.mpr ⟨⟨okX5_worth, jj_m (i := 786) rfl rfl, jj_m (i := 787) rfl rfl, jj_m (i := 788) rfl rfl⟩, List.forall_mem_cons.mpr ⟨⟨okX4_broken, jj_m (i := 451) rfl rfl, jj_m (i := 452) rfl rfl, jj_m (i := 453) rfl rfl⟩, List.forall_mem_cons.mpr ⟨⟨okX5_broken, jj_m (i := 790) rfl rfl, jj_m (i := 791) rfl rfl, jj_m (i := 792) rfl rfl⟩, List.forall_mem_cons.mpr ⟨⟨okX4_share, jj_m (i := 456) rfl rfl, jj_m (i := 457) rfl rfl, jj_m (i := 458) rfl rfl⟩, List.forall_mem_cons.mpr ⟨⟨okX5_share, jj_m (i := 794) rfl rfl, jj_m (i := 795) rfl rfl, jj_m (i := 796) rfl rfl⟩, List.forall_mem_cons.mpr ⟨⟨okX4_sharePrice, jj_m (i := 532) rfl rfl, jj_m (i := 533) rfl rfl, jj_m (i := 534) rfl rfl⟩, List.forall_mem_cons.mpr ⟨⟨okX5_sharePrice, jj_m (i := 821) rfl rfl, jj_m (i := 822) rfl rfl, jj_m (i := 823) rfl rfl⟩, List.forall_mem_cons.mpr ⟨⟨okX4_holds, jj_m (i := 546) rfl rfl, jj_m (i := 547) rfl rfl, jj_m (i := 548) rfl rfl⟩, List.forall_mem_cons.mpr ⟨⟨okX5_holds, jj_m (i := 830) rfl rfl, jj_m (i := 831) rfl rfl, jj_m (i := 832) rfl rfl⟩, List.forall_mem_cons.mpr ⟨⟨okX4_gap, jj_m (i := 558) rfl rfl, jj_m (i := 559) rfl rfl, jj_m (i := 560) rfl rfl⟩, List.forall_mem_cons.mpr ⟨⟨okX5_gap, jj_m (i := 835) rfl rfl, jj_m (i := 836) rfl rfl, jj_m (i := 837) rfl rfl⟩, List.forall_mem_cons.mpr ⟨⟨okX4_told, jj_m (i := 562) rfl rfl, jj_m (i := 563) rfl rfl, jj_m (i := 564) rfl rfl⟩, List.forall_mem_cons.mpr ⟨⟨okX5_told, jj_m (i := 839) rfl rfl, jj_m (i := 840) rfl rfl, jj_m (i := 841) rfl rfl⟩, fun _ h => absurd h List.not_mem_nil⟩⟩⟩⟩⟩⟩⟩⟩⟩⟩⟩⟩⟩⟩⟩⟩⟩⟩⟩⟩⟩⟩⟩⟩⟩⟩⟩⟩⟩⟩⟩⟩⟩⟩⟩⟩⟩⟩⟩⟩⟩⟩⟩⟩⟩⟩
theorem jj_mv_ok : ∀ c : Nat, ∀ e ∈ jj_mvL c, jj_okM e.2 ∧ Cond.methodLink (jj_R c) e.1 e.2.1.1 ∈ jj_wl ∧ Cond.instanceMethod e.2.1.1 ∈ jj_wl ∧ Cond.selects e.2.1.1.cls e.2.1.1 e.2.1.1 ∈ jj_wl := fun c => match c with
  | 0 => fun _ h => absurd h List.not_mem_nil
  | 1 => jj_mv_ok_1
  | 2 => jj_mv_ok_2
  | 3 => jj_mv_ok_3
  | 4 => jj_mv_ok_4
  | 5 => jj_mv_ok_5
  | 6 => fun _ h => absurd h List.not_mem_nil
  | 7 => fun _ h => absurd h List.not_mem_nil
  | 8 => jj_mv_ok_8
  | 9 => fun _ h => absurd h List.not_mem_nil
  | _ + 10 => fun _ h => absurd h List.not_mem_nil
set_option maxRecDepth 20000 in
theorem jj_ms_ok_1 : ∀ e ∈ jj_msL 1, jj_okM e.2 ∧ Cond.methodLink (jj_R 1) e.1 e.2.1.1 ∈ jj_wl ∧ Cond.static e.2.1.1 ∈ jj_wl := List.forall_mem_cons.mpr ⟨⟨okX1_allCount, jj_m (i := 468) rfl rfl, jj_m (i := 469) rfl rfl⟩, List.forall_mem_cons.mpr ⟨⟨okX1_has, jj_m (i := 471) rfl rfl, jj_m (i := 472) rfl rfl⟩, List.forall_mem_cons.mpr ⟨⟨okJ6_bitCount_0f7a4, jj_m (i := 482) rfl rfl, jj_m (i := 483) rfl rfl⟩, List.forall_mem_cons.mpr ⟨⟨okX1_determinant, jj_m (i := 492) rfl rfl, jj_m (i := 493) rfl rfl⟩, List.forall_mem_cons.mpr ⟨⟨okJ9_abs_067f4, jj_m (i := 503) rfl rfl, jj_m (i := 504) rfl rfl⟩, List.forall_mem_cons.mpr ⟨⟨okJ9_max_f86c9, jj_m (i := 514) rfl rfl, jj_m (i := 515) rfl rfl⟩, List.forall_mem_cons.mpr ⟨⟨okJ9_min_f86c9, jj_m (i := 555) rfl rfl, jj_m (i := 556) rfl rfl⟩, fun _ h => absurd h List.not_mem_nil⟩⟩⟩⟩⟩⟩⟩
set_option maxRecDepth 20000 in
theorem jj_ms_ok_2 : ∀ e ∈ jj_msL 2, jj_okM e.2 ∧ Cond.methodLink (jj_R 2) e.1 e.2.1.1 ∈ jj_wl ∧ Cond.static e.2.1.1 ∈ jj_wl := List.forall_mem_cons.mpr ⟨⟨okJ7_fill_53178, jj_m (i := 306) rfl rfl, jj_m (i := 307) rfl rfl⟩, List.forall_mem_cons.mpr ⟨⟨okJ9_max_7cf53, jj_m (i := 338) rfl rfl, jj_m (i := 339) rfl rfl⟩, List.forall_mem_cons.mpr ⟨⟨okJ9_floorDiv_7cf53, jj_m (i := 431) rfl rfl, jj_m (i := 432) rfl rfl⟩, List.forall_mem_cons.mpr ⟨⟨okJ9_min_7cf53, jj_m (i := 434) rfl rfl, jj_m (i := 331) rfl rfl⟩, fun _ h => absurd h List.not_mem_nil⟩⟩⟩⟩
set_option maxRecDepth 20000 in
theorem jj_ms_ok_3 : ∀ e ∈ jj_msL 3, jj_okM e.2 ∧ Cond.methodLink (jj_R 3) e.1 e.2.1.1 ∈ jj_wl ∧ Cond.static e.2.1.1 ∈ jj_wl := List.forall_mem_cons.mpr ⟨⟨okJ9_min_7cf53, jj_m (i := 330) rfl rfl, jj_m (i := 331) rfl rfl⟩, fun _ h => absurd h List.not_mem_nil⟩
set_option maxRecDepth 20000 in
theorem jj_ms_ok_4 : ∀ e ∈ jj_msL 4, jj_okM e.2 ∧ Cond.methodLink (jj_R 4) e.1 e.2.1.1 ∈ jj_wl ∧ Cond.static e.2.1.1 ∈ jj_wl := List.forall_mem_cons.mpr ⟨⟨okX4_isWorth, jj_m (i := 238) rfl rfl, jj_m (i := 239) rfl rfl⟩, List.forall_mem_cons.mpr ⟨⟨okX4_isCount, jj_m (i := 241) rfl rfl, jj_m (i := 242) rfl rfl⟩, List.forall_mem_cons.mpr ⟨⟨okX4_isLimit, jj_m (i := 258) rfl rfl, jj_m (i := 259) rfl rfl⟩, List.forall_mem_cons.mpr ⟨⟨okX4_inLowestTerms, jj_m (i := 525) rfl rfl, jj_m (i := 526) rfl rfl⟩, List.forall_mem_cons.mpr ⟨⟨okJ9_abs_067f4, jj_m (i := 528) rfl rfl, jj_m (i := 504) rfl rfl⟩, List.forall_mem_cons.mpr ⟨⟨okX4_commonDivisor, jj_m (i := 529) rfl rfl, jj_m (i := 530) rfl rfl⟩, fun _ h => absurd h List.not_mem_nil⟩⟩⟩⟩⟩⟩
set_option maxRecDepth 20000 in
theorem jj_ms_ok_5 : ∀ e ∈ jj_msL 5, jj_okM e.2 ∧ Cond.methodLink (jj_R 5) e.1 e.2.1.1 ∈ jj_wl ∧ Cond.static e.2.1.1 ∈ jj_wl := List.forall_mem_cons.mpr ⟨⟨okX5_in, jj_m (i := 680) rfl rfl, jj_m (i := 681) rfl rfl⟩, List.forall_mem_cons.mpr ⟨⟨okX5_isLimit, jj_m (i := 691) rfl rfl, jj_m (i := 692) rfl rfl⟩, List.forall_mem_cons.mpr ⟨⟨okX5_floor, jj_m (i := 779) rfl rfl, jj_m (i := 780) rfl rfl⟩, List.forall_mem_cons.mpr ⟨⟨okX5_part, jj_m (i := 818) rfl rfl, jj_m (i := 819) rfl rfl⟩, fun _ h => absurd h List.not_mem_nil⟩⟩⟩⟩
theorem jj_ms_ok : ∀ c : Nat, ∀ e ∈ jj_msL c, jj_okM e.2 ∧ Cond.methodLink (jj_R c) e.1 e.2.1.1 ∈ jj_wl ∧ Cond.static e.2.1.1 ∈ jj_wl := fun c => match c with
  | 0 => fun _ h => absurd h List.not_mem_nil
  | 1 => jj_ms_ok_1
  | 2 => jj_ms_ok_2
  | 3 => jj_ms_ok_3
  | 4 => jj_ms_ok_4
  | 5 => jj_ms_ok_5
  | 6 => fun _ h => absurd h List.not_mem_nil
  | 7 => fun _ h => absurd h List.not_mem_nil
  | 8 => fun _ h => absurd h List.not_mem_nil
  | 9 => fun _ h => absurd h List.not_mem_nil
  | _ + 10 => fun _ h => absurd h List.not_mem_nil
set_option maxRecDepth 20000 in
theorem inX0 : ∀ w ∈ wsX00, w ∈ jj_wl := by decide +kernel
set_option maxRecDepth 20000 in
theorem inX1 : ∀ w ∈ wsX10, w ∈ jj_wl := by decide +kernel
set_option maxRecDepth 20000 in
theorem inX2 : ∀ w ∈ wsX20, w ∈ jj_wl := by decide +kernel
set_option maxRecDepth 20000 in
theorem inX3 : ∀ w ∈ wsX30, w ∈ jj_wl := by decide +kernel
set_option maxRecDepth 20000 in
theorem inX4 : ∀ w ∈ wsX40, w ∈ jj_wl := by decide +kernel
set_option maxRecDepth 20000 in
theorem inX5 : ∀ w ∈ wsX50, w ∈ jj_wl := by decide +kernel
def jj_okC (ci : Nat) : Prop := vwCl[ci]? = some (jj_R ci, jj_T ci, jj_nf ci) ∧ (∀ w ∈ u_ws (jj_R ci) (jj_T ci) (jj_nf ci), w ∈ jj_wl) ∧ (∀ k, k < jj_nf ci → parseFieldDescriptor (jj_T ci k).2.2.1 = some (jj_fty ci k)) ∧ (∀ a, a < jj_nf ci → ∀ b, b < jj_nf ci → a ≠ b → (jj_T ci a).2.1 ≠ (jj_T ci b).2.1) ∧ (∀ k, k < jj_nf ci → (jj_fty ci k = .int ∨ jj_fty ci k = .boolean ∨ jj_fty ci k = .long) → (jj_T ci k).2.2.2 = false)
theorem okC0 : jj_okC 0 := ⟨rfl, inX0, tyX0_ok, nmX0, by decide +kernel⟩
theorem okC1 : jj_okC 1 := ⟨rfl, inX1, tyX1_ok, nmX1, by decide +kernel⟩
theorem okC2 : jj_okC 2 := ⟨rfl, inX2, tyX2_ok, nmX2, by decide +kernel⟩
theorem okC3 : jj_okC 3 := ⟨rfl, inX3, tyX3_ok, nmX3, by decide +kernel⟩
theorem okC4 : jj_okC 4 := ⟨rfl, inX4, tyX4_ok, nmX4, by decide +kernel⟩
theorem okC5 : jj_okC 5 := ⟨rfl, inX5, tyX5_ok, nmX5, by decide +kernel⟩
theorem jj_clsL {a ci : Nat} (h : jj_sh[a]? = some (.inl ci)) : a < jj_nc ∧ jj_okC ci := by
  have ha : a < 46 := (List.getElem?_eq_some_iff.mp h).1
  refine ⟨ha, ?_⟩
  have hm : (Sum.inl ci : Nat ⊕ (FieldType × Nat)) ∈ jj_sh := List.mem_of_getElem? h
  simp [jj_sh] at hm
  rcases hm with rfl | rfl | rfl | rfl | rfl | rfl
  all_goals first | exact okC0 | exact okC1 | exact okC2 | exact okC3 | exact okC4 | exact okC5

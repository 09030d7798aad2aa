/-! what a run comes to, as a proposition that rewrites -/
def jj_Ex (d : Nat) (M : jj_M) (pc : Nat) (lc st : List Value) (h : jj_Hp) (Q : Option Value → jj_Hp → Prop) : Prop := ∃ n r h', jj_exec n d M pc lc st h = some (r, h') ∧ Q r h'
def jj_Ca (d : Nat) (M : jj_M) (vs : List Value) (h : jj_Hp) (Q : Option Value → jj_Hp → Prop) : Prop := jj_Ex d M 0 (jj_ent vs M.2.1) [] h Q
def jj_body (f : Nat → jj_M → Nat → List Value → List Value → jj_Hp → Option (Option Value × jj_Hp)) (d : Nat) (M : jj_M) (pc : Nat) (lc st : List Value) (h : jj_Hp) : Option (Option Value × jj_Hp) := match decode M.1.2 pc with
    | .ok (ins, len) => if jj_len ins len = len then
        match jj_fin M.2.2.1 ins st with
        | some r => some (r, h)
        | none => match jj_cal M.2.2.2.1 ins st with
          | some q => if jj_cok q then
              match d with
              | 0 => none
              | d' + 1 => match f d' q.1 0 (jj_ent q.2.1 q.1.2.1) [] h with
                | some (r, h1) => f (d' + 1) M (pc + 3) lc (r.toList ++ q.2.2) h1
                | none => none
              else none
          | none => match jj_st M.2.2.2.1 ins pc lc st h with
            | some p => f d M p.1 p.2.1 p.2.2.1 p.2.2.2
            | none => none
        else none
    | _ => none
theorem jj_exec_succ (n d : Nat) (M : jj_M) (pc : Nat) (lc st : List Value) (h : jj_Hp) : jj_exec (n + 1) d M pc lc st h = jj_body (jj_exec n) d M pc lc st h := rfl
theorem jj_body_inv {f : Nat → jj_M → Nat → List Value → List Value → jj_Hp → Option (Option Value × jj_Hp)} {d : Nat} {M : jj_M} {pc : Nat} {lc st : List Value} {h : jj_Hp} {x : Option Value × jj_Hp} (hx : jj_body f d M pc lc st h = some x) :
    ∃ ins len, decode M.1.2 pc = .ok (ins, len) ∧ jj_len ins len = len ∧ ((∃ r, jj_fin M.2.2.1 ins st = some r ∧ x = (r, h)) ∨ (jj_fin M.2.2.1 ins st = none ∧ ∃ q d' r h1, jj_cal M.2.2.2.1 ins st = some q ∧ jj_cok q = true ∧ d = d' + 1 ∧ f d' q.1 0 (jj_ent q.2.1 q.1.2.1) [] h = some (r, h1) ∧ f (d' + 1) M (pc + 3) lc (r.toList ++ q.2.2) h1 = some x) ∨ (jj_fin M.2.2.1 ins st = none ∧ jj_cal M.2.2.2.1 ins st = none ∧ ∃ P, jj_st M.2.2.2.1 ins pc lc st h = some P ∧ f d M P.1 P.2.1 P.2.2.1 P.2.2.2 = some x)) := by
  unfold jj_body at hx
  split at hx
  · next ins len hd =>
    split at hx
    · next hlen =>
      refine ⟨ins, len, hd, hlen, ?_⟩
      split at hx
      · next r hf =>
        cases hx
        exact Or.inl ⟨r, hf, rfl⟩
      · next hf =>
        split at hx
        · next q hq =>
          split at hx
          · next hc =>
            cases d with
            | zero => cases hx
            | succ d' =>
              dsimp only at hx
              split at hx
              · next r h1 hcall => exact Or.inr (Or.inl ⟨hf, q, d', r, h1, hq, hc, rfl, hcall, hx⟩)
              · cases hx
          · cases hx
        · next hq =>
          split at hx
          · next P hP => exact Or.inr (Or.inr ⟨hf, hq, P, hP, hx⟩)
          · cases hx
    · cases hx
  · cases hx
theorem jj_body_fin {f : Nat → jj_M → Nat → List Value → List Value → jj_Hp → Option (Option Value × jj_Hp)} {d : Nat} {M : jj_M} {pc len : Nat} {ins : Instr} {lc st : List Value} {h : jj_Hp} {r : Option Value} (hd : decode M.1.2 pc = .ok (ins, len)) (hl : jj_len ins len = len) (hf : jj_fin M.2.2.1 ins st = some r) : jj_body f d M pc lc st h = some (r, h) := by
  unfold jj_body
  rw [hd]
  dsimp only
  rw [if_pos hl, hf]
theorem jj_body_st {f : Nat → jj_M → Nat → List Value → List Value → jj_Hp → Option (Option Value × jj_Hp)} {d : Nat} {M : jj_M} {pc len : Nat} {ins : Instr} {lc st : List Value} {h : jj_Hp} {P : jj_P} (hd : decode M.1.2 pc = .ok (ins, len)) (hl : jj_len ins len = len) (hf : jj_fin M.2.2.1 ins st = none) (hc : jj_cal M.2.2.2.1 ins st = none) (hs : jj_st M.2.2.2.1 ins pc lc st h = some P) : jj_body f d M pc lc st h = f d M P.1 P.2.1 P.2.2.1 P.2.2.2 := by
  unfold jj_body
  rw [hd]
  dsimp only
  rw [if_pos hl, hf]
  dsimp only
  rw [hc]
  dsimp only
  rw [hs]
theorem jj_body_call {f : Nat → jj_M → Nat → List Value → List Value → jj_Hp → Option (Option Value × jj_Hp)} {d : Nat} {M : jj_M} {pc len : Nat} {ins : Instr} {lc st : List Value} {h h1 : jj_Hp} {r : Option Value} {q : jj_M × List Value × List Value} (hd : decode M.1.2 pc = .ok (ins, len)) (hl : jj_len ins len = len) (hf : jj_fin M.2.2.1 ins st = none) (hc : jj_cal M.2.2.2.1 ins st = some q) (hk : jj_cok q = true) (hcall : f d q.1 0 (jj_ent q.2.1 q.1.2.1) [] h = some (r, h1)) : jj_body f (d + 1) M pc lc st h = f (d + 1) M (pc + 3) lc (r.toList ++ q.2.2) h1 := by
  unfold jj_body
  rw [hd]
  dsimp only
  rw [if_pos hl, hf]
  dsimp only
  rw [hc]
  dsimp only
  rw [if_pos hk, hcall]
theorem jj_mono1 : ∀ (n d : Nat) (M : jj_M) (pc : Nat) (lc st : List Value) (h : jj_Hp) (x : Option Value × jj_Hp), jj_exec n d M pc lc st h = some x → jj_exec (n + 1) d M pc lc st h = some x
  | 0, d, M, pc, lc, st, h, x, hx => by cases hx
  | n + 1, d, M, pc, lc, st, h, x, hx => by
    rw [jj_exec_succ] at hx
    rw [jj_exec_succ]
    obtain ⟨ins, len, hd, hl, ⟨r, hf, rfl⟩ | ⟨hf, q, d', r, h1, hc, hk, rfl, hcall, hx⟩ | ⟨hf, hc, P, hP, hx⟩⟩ := jj_body_inv hx
    · exact jj_body_fin hd hl hf
    · rw [jj_body_call hd hl hf hc hk (jj_mono1 n _ _ _ _ _ _ _ hcall)]
      exact jj_mono1 n _ _ _ _ _ _ _ hx
    · rw [jj_body_st hd hl hf hc hP]
      exact jj_mono1 n _ _ _ _ _ _ _ hx
theorem jj_mono {n n' d : Nat} {M : jj_M} {pc : Nat} {lc st : List Value} {h : jj_Hp} {x : Option Value × jj_Hp} (hn : n ≤ n') (hx : jj_exec n d M pc lc st h = some x) : jj_exec n' d M pc lc st h = some x := by
  induction hn with
  | refl => exact hx
  | step _ ih => exact jj_mono1 _ _ _ _ _ _ _ _ ih
theorem jj_deep1 : ∀ (n d : Nat) (M : jj_M) (pc : Nat) (lc st : List Value) (h : jj_Hp) (x : Option Value × jj_Hp), jj_exec n d M pc lc st h = some x → jj_exec n (d + 1) M pc lc st h = some x
  | 0, d, M, pc, lc, st, h, x, hx => by cases hx
  | n + 1, d, M, pc, lc, st, h, x, hx => by
    rw [jj_exec_succ] at hx
    rw [jj_exec_succ]
    obtain ⟨ins, len, hd, hl, ⟨r, hf, rfl⟩ | ⟨hf, q, d', r, h1, hc, hk, rfl, hcall, hx⟩ | ⟨hf, hc, P, hP, hx⟩⟩ := jj_body_inv hx
    · exact jj_body_fin hd hl hf
    · rw [jj_body_call hd hl hf hc hk (jj_deep1 n _ _ _ _ _ _ _ hcall)]
      exact jj_deep1 n _ _ _ _ _ _ _ hx
    · rw [jj_body_st hd hl hf hc hP]
      exact jj_deep1 n _ _ _ _ _ _ _ hx
theorem jj_deep {n d d' : Nat} {M : jj_M} {pc : Nat} {lc st : List Value} {h : jj_Hp} {x : Option Value × jj_Hp} (hn : d ≤ d') (hx : jj_exec n d M pc lc st h = some x) : jj_exec n d' M pc lc st h = some x := by
  induction hn with
  | refl => exact hx
  | step _ ih => exact jj_deep1 _ _ _ _ _ _ _ _ ih
theorem jj_Ex.deep {d d' : Nat} {M : jj_M} {pc : Nat} {lc st : List Value} {h : jj_Hp} {Q : Option Value → jj_Hp → Prop} (hn : d ≤ d') (hx : jj_Ex d M pc lc st h Q) : jj_Ex d' M pc lc st h Q := by
  obtain ⟨n, r, h', a, b⟩ := hx
  exact ⟨n, r, h', jj_deep hn a, b⟩
theorem jj_Ex.imp {d : Nat} {M : jj_M} {pc : Nat} {lc st : List Value} {h : jj_Hp} {Q Q' : Option Value → jj_Hp → Prop} (hx : jj_Ex d M pc lc st h Q) (hQ : ∀ r h', Q r h' → Q' r h') : jj_Ex d M pc lc st h Q' := by
  obtain ⟨n, r, h', a, b⟩ := hx
  exact ⟨n, r, h', a, hQ _ _ b⟩
theorem jj_Ca.deep {d d' : Nat} {M : jj_M} {vs : List Value} {h : jj_Hp} {Q : Option Value → jj_Hp → Prop} (hn : d ≤ d') (hx : jj_Ca d M vs h Q) : jj_Ca d' M vs h Q := jj_Ex.deep hn hx
theorem jj_Ca.imp {d : Nat} {M : jj_M} {vs : List Value} {h : jj_Hp} {Q Q' : Option Value → jj_Hp → Prop} (hx : jj_Ca d M vs h Q) (hQ : ∀ r h', Q r h' → Q' r h') : jj_Ca d M vs h Q' := jj_Ex.imp hx hQ
/-- an instruction that neither calls nor returns -/
theorem jj_xs {d : Nat} {M : jj_M} {pc len : Nat} {ins : Instr} {lc st : List Value} {h : jj_Hp} {Q : Option Value → jj_Hp → Prop} {P : jj_P} (hd : decode M.1.2 pc = .ok (ins, len)) (hl : jj_len ins len = len) (hf : jj_fin M.2.2.1 ins st = none) (hc : jj_cal M.2.2.2.1 ins st = none) (hs : jj_st M.2.2.2.1 ins pc lc st h = some P) :
    jj_Ex d M pc lc st h Q = jj_Ex d M P.1 P.2.1 P.2.2.1 P.2.2.2 Q := by
  have key : ∀ n, jj_exec (n + 1) d M pc lc st h = jj_exec n d M P.1 P.2.1 P.2.2.1 P.2.2.2 := by
    intro n
    rw [jj_exec_succ]
    exact jj_body_st hd hl hf hc hs
  apply propext
  constructor
  · rintro ⟨n, r, h', a, b⟩
    cases n with
    | zero => cases a
    | succ n => exact ⟨n, r, h', (key n).symm.trans a, b⟩
  · rintro ⟨n, r, h', a, b⟩
    exact ⟨n + 1, r, h', (key n).trans a, b⟩
theorem jj_xf {d : Nat} {M : jj_M} {pc len : Nat} {ins : Instr} {lc st : List Value} {h : jj_Hp} {Q : Option Value → jj_Hp → Prop} {r : Option Value} (hd : decode M.1.2 pc = .ok (ins, len)) (hl : jj_len ins len = len) (hf : jj_fin M.2.2.1 ins st = some r) :
    jj_Ex d M pc lc st h Q = Q r h := by
  have key : ∀ n, jj_exec (n + 1) d M pc lc st h = some (r, h) := by
    intro n
    rw [jj_exec_succ]
    exact jj_body_fin hd hl hf
  apply propext
  constructor
  · rintro ⟨n, r', h', a, b⟩
    cases n with
    | zero => cases a
    | succ n =>
      have := (key n).symm.trans a
      cases this
      exact b
  · intro b
    exact ⟨1, r, h, key 0, b⟩
theorem jj_xc {d : Nat} {M M' : jj_M} {pc len : Nat} {ins : Instr} {lc st vs rest : List Value} {h : jj_Hp} {Q : Option Value → jj_Hp → Prop} (hd : decode M.1.2 pc = .ok (ins, len)) (hl : jj_len ins len = len) (hf : jj_fin M.2.2.1 ins st = none) (hc : jj_cal M.2.2.2.1 ins st = some (M', vs, rest)) (hk : jj_cok (M', vs, rest) = true) :
    jj_Ex (d + 1) M pc lc st h Q = jj_Ca d M' vs h (fun r h1 => jj_Ex (d + 1) M (pc + 3) lc (r.toList ++ rest) h1 Q) := by
  apply propext
  constructor
  · rintro ⟨n, r, h', a, b⟩
    cases n with
    | zero => cases a
    | succ n =>
      rw [jj_exec_succ] at a
      obtain ⟨ins', len', hd', hl', ⟨r2, hf', h2⟩ | ⟨hf', q, d', r2, h1, hc', hk', e, hcall, hx⟩ | ⟨hf', hc', P, hP, hx⟩⟩ := jj_body_inv a
      · rw [hd] at hd'; cases hd'; rw [hf] at hf'; cases hf'
      · rw [hd] at hd'; cases hd'; rw [hc] at hc'; cases hc'; cases e
        exact ⟨n, r2, h1, hcall, n, r, h', hx, b⟩
      · rw [hd] at hd'; cases hd'; rw [hc] at hc'; cases hc'
  · rintro ⟨n1, r1, h1, a1, n2, r, h', a, b⟩
    refine ⟨max n1 n2 + 1, r, h', ?_, b⟩
    rw [jj_exec_succ, jj_body_call hd hl hf hc hk (jj_mono (Nat.le_max_left n1 n2) a1)]
    exact jj_mono (Nat.le_max_right n1 n2) a
/-! the same with whole numbers for the machine's -/
def iv (z : Int) : Value := .int (Int32.ofInt z)
def lv (z : Int) : Value := .long (Int64.ofInt z)
def jj_h (Z Y : Nat → Nat → Int) (S : Nat × (Nat → Int32)) : jj_Hp := (fun a k => Int32.ofInt (Z a k), fun a k => Int64.ofInt (Y a k), S)
def zu (Z : Nat → Nat → Int) (a k : Nat) (v : Int) : Nat → Nat → Int := fun a' k' => if a' = a ∧ k' = k then v else Z a' k'
theorem iu_h (Z Y : Nat → Nat → Int) (S : Nat × (Nat → Int32)) (a k : Nat) (v : Int) : jj_iu (jj_h Z Y S) a k (Int32.ofInt v) = jj_h (zu Z a k v) Y S := by
  unfold jj_iu jj_h
  refine Prod.ext ?_ rfl
  funext a' k'
  show (if a' = a then upd (fun k => Int32.ofInt (Z a k)) k (Int32.ofInt v) else fun k => Int32.ofInt (Z a' k)) k' = Int32.ofInt (zu Z a k v a' k')
  unfold zu
  by_cases h1 : a' = a
  · subst h1
    rw [if_pos rfl]
    unfold upd
    by_cases h2 : k' = k
    · rw [if_pos h2, if_pos ⟨rfl, h2⟩]
    · rw [if_neg h2, if_neg (fun q => h2 q.2)]
  · rw [if_neg h1, if_neg (fun q => h1 q.1)]
theorem lu_h (Z Y : Nat → Nat → Int) (S : Nat × (Nat → Int32)) (a k : Nat) (v : Int) : jj_lu (jj_h Z Y S) a k (Int64.ofInt v) = jj_h Z (zu Y a k v) S := by
  unfold jj_lu jj_h
  refine Prod.ext rfl (Prod.ext ?_ rfl)
  funext a' k'
  show (if a' = a then vp_updL (fun k => Int64.ofInt (Y a k)) k (Int64.ofInt v) else fun k => Int64.ofInt (Y a' k)) k' = Int64.ofInt (zu Y a k v a' k')
  unfold zu
  by_cases h1 : a' = a
  · subst h1
    rw [if_pos rfl]
    unfold vp_updL
    by_cases h2 : k' = k
    · rw [if_pos h2, if_pos ⟨rfl, h2⟩]
    · rw [if_neg h2, if_neg (fun q => h2 q.2)]
  · rw [if_neg h1, if_neg (fun q => h1 q.1)]
theorem i_toInt {z : Int} (h : -2147483648 ≤ z ∧ z ≤ 2147483647) : (Int32.ofInt z).toInt = z := Int32.toInt_ofInt_of_le (by omega) (by omega)
theorem l_toInt {z : Int} (h : -9223372036854775808 ≤ z ∧ z ≤ 9223372036854775807) : (Int64.ofInt z).toInt = z := Int64.toInt_ofInt_of_le (by omega) (by omega)
theorem i_lt {x y : Int} (hx : -2147483648 ≤ x ∧ x ≤ 2147483647) (hy : -2147483648 ≤ y ∧ y ≤ 2147483647) : Int32.ofInt x < Int32.ofInt y ↔ x < y := by
  rw [Int32.lt_iff_toInt_lt, i_toInt hx, i_toInt hy]
theorem i_le {x y : Int} (hx : -2147483648 ≤ x ∧ x ≤ 2147483647) (hy : -2147483648 ≤ y ∧ y ≤ 2147483647) : Int32.ofInt x ≤ Int32.ofInt y ↔ x ≤ y := by
  rw [Int32.le_iff_toInt_le, i_toInt hx, i_toInt hy]
theorem i_eq {x y : Int} (hx : -2147483648 ≤ x ∧ x ≤ 2147483647) (hy : -2147483648 ≤ y ∧ y ≤ 2147483647) : Int32.ofInt x = Int32.ofInt y ↔ x = y := by
  rw [← Int32.toInt_inj, i_toInt hx, i_toInt hy]
theorem l_lt {x y : Int} (hx : -9223372036854775808 ≤ x ∧ x ≤ 9223372036854775807) (hy : -9223372036854775808 ≤ y ∧ y ≤ 9223372036854775807) : Int64.ofInt x < Int64.ofInt y ↔ x < y := by
  rw [Int64.lt_iff_toInt_lt, l_toInt hx, l_toInt hy]
theorem l_eq {x y : Int} (hx : -9223372036854775808 ≤ x ∧ x ≤ 9223372036854775807) (hy : -9223372036854775808 ≤ y ∧ y ≤ 9223372036854775807) : Int64.ofInt x = Int64.ofInt y ↔ x = y := by
  rw [← Int64.toInt_inj, l_toInt hx, l_toInt hy]
theorem i_clamp {z : Int} (h : 0 ≤ z ∧ z ≤ 2147483647) : (Int32.ofInt z).toNatClampNeg = z.toNat := by
  show (Int32.ofInt z).toInt.toNat = z.toNat
  rw [i_toInt (by omega)]
theorem i_inb {z : Int} {n : Nat} (h : 0 ≤ z) (hn : z < n) (h2 : n ≤ 2147483647) : jj_inb (Int32.ofInt z) n = true := by
  unfold jj_inb
  rw [i_clamp (by omega)]
  simp only [Bool.and_eq_true, decide_eq_true_eq]
  refine ⟨?_, by omega⟩
  have := (i_le (x := 0) (y := z) (by omega) (by omega)).mpr h
  exact this

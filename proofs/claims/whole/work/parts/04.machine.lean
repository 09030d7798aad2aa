/-! A machine of our own over the cells of this system: what an instruction does to locals, operands and cells, as a function; runs of it; and that the machine does the same -/
abbrev jj_Hp : Type := (Nat → Nat → Int32) × (Nat → Nat → Int64) × (Nat × (Nat → Int32))
def jj_fld (c i : Nat) : Option (Nat × Nat) := (jj_fl c).lookup i
def jj_ldc (c i : Nat) : Option Int32 := (jj_ldL c).lookup i
def jj_ldl (c i : Nat) : Option Int64 := (jj_llL c).lookup i
def jj_mv (c i : Nat) : Option jj_M := (jj_mvL c).lookup i
def jj_ms (c i : Nat) : Option jj_M := (jj_msL c).lookup i
/-- an int written into a cell -/
def jj_iu (h : jj_Hp) (a k : Nat) (x : Int32) : jj_Hp := (fun q => if q = a then upd (h.1 a) k x else h.1 q, h.2)
def jj_lu (h : jj_Hp) (a k : Nat) (x : Int64) : jj_Hp := (h.1, (fun q => if q = a then vp_updL (h.2.1 a) k x else h.2.1 q), h.2.2)
/-- the law's own script, as a cell -/
abbrev jj_sc : Nat := 1000
def jj_clr : Value → Value
  | .long _ => .null
  | .double _ => .null
  | v => v
def jj_set : List Value → Nat → Value → List Value
  | [], _, _ => []
  | _ :: l, 0, v => v :: l
  | a :: l, 1, v => jj_clr a :: jj_set l 0 v
  | a :: l, i + 2, v => a :: jj_set l (i + 1) v
def jj_set2 (lc : List Value) (i : Nat) (v : Value) : List Value := (jj_set lc i v).set (i + 1) .null
def jj_ent : List Value → Nat → List Value
  | [], n => List.replicate n .null
  | .long x :: l, n => .long x :: .null :: jj_ent l (n - 2)
  | .int x :: l, n => .int x :: jj_ent l (n - 1)
  | .ref x :: l, n => .ref x :: jj_ent l (n - 1)
  | _ :: l, n => .null :: jj_ent l (n - 1)
def jj_wd : List Value → Nat
  | [] => 0
  | .long _ :: l => jj_wd l + 2
  | .int _ :: l => jj_wd l + 1
  | .ref _ :: l => jj_wd l + 1
  | _ :: _ => 1000
section JJ1
variable {α : Type}
def jj_i (st : List Value) (f : Int32 → List Value → Option α) : Option α := match st with
  | .int x :: r => f x r
  | _ => none
def jj_ii (st : List Value) (f : Int32 → Int32 → List Value → Option α) : Option α := match st with
  | .int y :: .int x :: r => f x y r
  | _ => none
def jj_l (st : List Value) (f : Int64 → List Value → Option α) : Option α := match st with
  | .long x :: r => f x r
  | _ => none
def jj_ll (st : List Value) (f : Int64 → Int64 → List Value → Option α) : Option α := match st with
  | .long y :: .long x :: r => f x y r
  | _ => none
def jj_r (st : List Value) (f : Nat → List Value → Option α) : Option α := match st with
  | .ref a :: r => f a r
  | _ => none
def jj_ri (st : List Value) (f : Nat → Int32 → List Value → Option α) : Option α := match st with
  | .int i :: .ref a :: r => f a i r
  | _ => none
def jj_rl (st : List Value) (f : Nat → Int64 → List Value → Option α) : Option α := match st with
  | .long i :: .ref a :: r => f a i r
  | _ => none
def jj_rii (st : List Value) (f : Nat → Int32 → Int32 → List Value → Option α) : Option α := match st with
  | .int x :: .int i :: .ref a :: r => f a i x r
  | _ => none
def jj_ril (st : List Value) (f : Nat → Int32 → Int64 → List Value → Option α) : Option α := match st with
  | .long x :: .int i :: .ref a :: r => f a i x r
  | _ => none
def jj_du (st : List Value) (f : Value → List Value → Option α) : Option α := match st with
  | .int x :: r => f (.int x) r
  | .ref x :: r => f (.ref x) r
  | _ => none
theorem jj_du_inv {st : List Value} {f : Value → List Value → Option α} {z : α} (h : jj_du st f = some z) : ∃ v r, st = v :: r ∧ v.category = 1 ∧ f v r = some z := by
  unfold jj_du at h; split at h
  · exact ⟨_, _, rfl, rfl, h⟩
  · exact ⟨_, _, rfl, rfl, h⟩
  · cases h
theorem jj_i_inv {st : List Value} {f : Int32 → List Value → Option α} {z : α} (h : jj_i st f = some z) : ∃ x r, st = .int x :: r ∧ f x r = some z := by
  unfold jj_i at h; split at h
  · exact ⟨_, _, rfl, h⟩
  · cases h
theorem jj_ii_inv {st : List Value} {f : Int32 → Int32 → List Value → Option α} {z : α} (h : jj_ii st f = some z) : ∃ x y r, st = .int y :: .int x :: r ∧ f x y r = some z := by
  unfold jj_ii at h; split at h
  · exact ⟨_, _, _, rfl, h⟩
  · cases h
theorem jj_l_inv {st : List Value} {f : Int64 → List Value → Option α} {z : α} (h : jj_l st f = some z) : ∃ x r, st = .long x :: r ∧ f x r = some z := by
  unfold jj_l at h; split at h
  · exact ⟨_, _, rfl, h⟩
  · cases h
theorem jj_ll_inv {st : List Value} {f : Int64 → Int64 → List Value → Option α} {z : α} (h : jj_ll st f = some z) : ∃ x y r, st = .long y :: .long x :: r ∧ f x y r = some z := by
  unfold jj_ll at h; split at h
  · exact ⟨_, _, _, rfl, h⟩
  · cases h
theorem jj_r_inv {st : List Value} {f : Nat → List Value → Option α} {z : α} (h : jj_r st f = some z) : ∃ a r, st = .ref a :: r ∧ f a r = some z := by
  unfold jj_r at h; split at h
  · exact ⟨_, _, rfl, h⟩
  · cases h
theorem jj_ri_inv {st : List Value} {f : Nat → Int32 → List Value → Option α} {z : α} (h : jj_ri st f = some z) : ∃ a i r, st = .int i :: .ref a :: r ∧ f a i r = some z := by
  unfold jj_ri at h; split at h
  · exact ⟨_, _, _, rfl, h⟩
  · cases h
theorem jj_rl_inv {st : List Value} {f : Nat → Int64 → List Value → Option α} {z : α} (h : jj_rl st f = some z) : ∃ a i r, st = .long i :: .ref a :: r ∧ f a i r = some z := by
  unfold jj_rl at h; split at h
  · exact ⟨_, _, _, rfl, h⟩
  · cases h
theorem jj_rii_inv {st : List Value} {f : Nat → Int32 → Int32 → List Value → Option α} {z : α} (h : jj_rii st f = some z) : ∃ a i x r, st = .int x :: .int i :: .ref a :: r ∧ f a i x r = some z := by
  unfold jj_rii at h; split at h
  · exact ⟨_, _, _, _, rfl, h⟩
  · cases h
theorem jj_ril_inv {st : List Value} {f : Nat → Int32 → Int64 → List Value → Option α} {z : α} (h : jj_ril st f = some z) : ∃ a i x r, st = .long x :: .int i :: .ref a :: r ∧ f a i x r = some z := by
  unfold jj_ril at h; split at h
  · exact ⟨_, _, _, _, rfl, h⟩
  · cases h
end JJ1
def jj_gi (lc : List Value) (i : Nat) : Option Int32 := match lc[i]? with
  | some (.int x) => some x
  | _ => none
def jj_gl (lc : List Value) (i : Nat) : Option Int64 := match lc[i]? with
  | some (.long x) => some x
  | _ => none
def jj_gr (lc : List Value) (i : Nat) : Option Nat := match lc[i]? with
  | some (.ref x) => some x
  | _ => none
def jj_c1 (q : ClassFile.Cond) (x : Int32) : Bool := match q with
  | .eq => decide (x = 0)
  | .ne => !decide (x = 0)
  | .lt => decide (x < 0)
  | .ge => decide (0 ≤ x)
  | .gt => decide (0 < x)
  | .le => decide (x ≤ 0)
def jj_c2 (q : ClassFile.Cond) (x y : Int32) : Bool := match q with
  | .eq => decide (x = y)
  | .ne => !decide (x = y)
  | .lt => decide (x < y)
  | .ge => decide (y ≤ x)
  | .gt => decide (y < x)
  | .le => decide (x ≤ y)
def jj_inb (i : Int32) (n : Nat) : Bool := decide (0 ≤ i) && decide (i.toNatClampNeg < n)
def jj_tsw (dflt lo hi : Int) (offs : Array Int) (x : Int32) : Option Int :=
  if x.toInt < lo ∨ hi < x.toInt then some dflt else offs[(x.toInt - lo).toNat]?
def jj_jmp (pc : Nat) (off : Int) : Option Nat := if 0 ≤ (pc : Int) + off then some ((pc : Int) + off).toNat else none
abbrev jj_P : Type := Nat × List Value × List Value × jj_Hp
/-- what is read of an object's field -/
def jj_gf (h : jj_Hp) (a ci k : Nat) : Value := match jj_fty ci k with
  | .int => .int (h.1 a k)
  | .boolean => .int (h.1 a k)
  | .long => .long (h.2.1 a k)
  | _ => .ref (jj_rf a k)
def jj_b01 (x : Int32) : Bool := decide (x = 0) || decide (x = 1)
def jj_st (c : Nat) (ins : Instr) (pc : Nat) (lc st : List Value) (h : jj_Hp) : Option jj_P := match ins with
  | .iconst k => some (pc + 1, lc, .int (Int32.ofInt k) :: st, h)
  | .bipush k => some (pc + 2, lc, .int (Int8.ofInt k).toInt32 :: st, h)
  | .sipush k => some (pc + 3, lc, .int (Int16.ofInt k).toInt32 :: st, h)
  | .lconst k => some (pc + 1, lc, .long (Int64.ofNat (k : Nat)) :: st, h)
  | .ldc i => (jj_ldc c i).map fun v => (pc + 2, lc, .int v :: st, h)
  | .ldc_w i => (jj_ldc c i).map fun v => (pc + 3, lc, .int v :: st, h)
  | .ldc2_w i => (jj_ldl c i).map fun v => (pc + 3, lc, .long v :: st, h)
  | .iload i => (jj_gi lc i).map fun x => (pc + 2, lc, .int x :: st, h)
  | .iload_n i => (jj_gi lc i).map fun x => (pc + 1, lc, .int x :: st, h)
  | .lload i => (jj_gl lc i).map fun x => (pc + 2, lc, .long x :: st, h)
  | .lload_n i => (jj_gl lc i).map fun x => (pc + 1, lc, .long x :: st, h)
  | .aload i => (jj_gr lc i).map fun x => (pc + 2, lc, .ref x :: st, h)
  | .aload_n i => (jj_gr lc i).map fun x => (pc + 1, lc, .ref x :: st, h)
  | .istore i => jj_i st fun x r => if i < lc.length then some (pc + 2, jj_set lc i (.int x), r, h) else none
  | .istore_n i => jj_i st fun x r => if i < lc.length then some (pc + 1, jj_set lc i (.int x), r, h) else none
  | .lstore i => jj_l st fun x r => if i + 1 < lc.length then some (pc + 2, jj_set2 lc i (.long x), r, h) else none
  | .lstore_n i => jj_l st fun x r => if i + 1 < lc.length then some (pc + 1, jj_set2 lc i (.long x), r, h) else none
  | .astore i => jj_r st fun x r => if i < lc.length then some (pc + 2, jj_set lc i (.ref x), r, h) else none
  | .astore_n i => jj_r st fun x r => if i < lc.length then some (pc + 1, jj_set lc i (.ref x), r, h) else none
  | .iinc i k => (jj_gi lc i).map fun x => (pc + 3, jj_set lc i (.int (x + Int32.ofInt k)), st, h)
  | .dup => jj_du st fun v r => some (pc + 1, lc, v :: v :: r, h)
  | .dup2 => jj_ri st fun a i r => some (pc + 1, lc, .int i :: .ref a :: .int i :: .ref a :: r, h)
  | .iadd => jj_ii st fun x y r => some (pc + 1, lc, .int (x + y) :: r, h)
  | .isub => jj_ii st fun x y r => some (pc + 1, lc, .int (x - y) :: r, h)
  | .imul => jj_ii st fun x y r => some (pc + 1, lc, .int (x * y) :: r, h)
  | .iand => jj_ii st fun x y r => some (pc + 1, lc, .int (x &&& y) :: r, h)
  | .ior => jj_ii st fun x y r => some (pc + 1, lc, .int (x ||| y) :: r, h)
  | .ixor => jj_ii st fun x y r => some (pc + 1, lc, .int (x ^^^ y) :: r, h)
  | .idiv => jj_ii st fun x y r => if y = 0 then none else some (pc + 1, lc, .int (x / y) :: r, h)
  | .irem => jj_ii st fun x y r => if y = 0 then none else some (pc + 1, lc, .int (x - x / y * y) :: r, h)
  | .ineg => jj_i st fun x r => some (pc + 1, lc, .int (-x) :: r, h)
  | .ishl => jj_ii st fun x y r => some (pc + 1, lc, .int (x <<< (y &&& 31)) :: r, h)
  | .ishr => jj_ii st fun x y r => some (pc + 1, lc, .int (x >>> (y &&& 31)) :: r, h)
  | .iushr => jj_ii st fun x y r => some (pc + 1, lc, .int (x.toUInt32 >>> (y.toUInt32 &&& Int32.toUInt32 31)).toInt32 :: r, h)
  | .ladd => jj_ll st fun x y r => some (pc + 1, lc, .long (x + y) :: r, h)
  | .lsub => jj_ll st fun x y r => some (pc + 1, lc, .long (x - y) :: r, h)
  | .lmul => jj_ll st fun x y r => some (pc + 1, lc, .long (x * y) :: r, h)
  | .ldiv => jj_ll st fun x y r => if y = 0 then none else some (pc + 1, lc, .long (x / y) :: r, h)
  | .lrem => jj_ll st fun x y r => if y = 0 then none else some (pc + 1, lc, .long (x - x / y * y) :: r, h)
  | .lneg => jj_l st fun x r => some (pc + 1, lc, .long (-x) :: r, h)
  | .lcmp => jj_ll st fun x y r => some (pc + 1, lc, .int (lg_cmp x y) :: r, h)
  | .i2l => jj_i st fun x r => some (pc + 1, lc, .long x.toInt64 :: r, h)
  | .l2i => jj_l st fun x r => some (pc + 1, lc, .int x.toInt32 :: r, h)
  | .goto off => (jj_jmp pc off).map fun t => (t, lc, st, h)
  | .ifCond q off => jj_i st fun x r => (jj_jmp pc off).map fun t => (if jj_c1 q x then t else pc + 3, lc, r, h)
  | .if_icmp q off => jj_ii st fun x y r => (jj_jmp pc off).map fun t => (if jj_c2 q x y then t else pc + 3, lc, r, h)
  | .tableswitch dflt lo hi offs => jj_i st fun x r => (jj_tsw dflt lo hi offs x).bind fun off => (jj_jmp pc off).map fun t => (t, lc, r, h)
  | .getfield i => jj_r st fun a r => (jj_fld c i).bind fun q => if jj_sh[a]? = some (.inl q.1) ∧ q.2 < jj_nf q.1 then some (pc + 3, lc, jj_gf h a q.1 q.2 :: r, h) else none
  | .putfield i => (jj_fld c i).bind fun q => match jj_fty q.1 q.2 with
    | .int => jj_ri st fun a x r => if jj_sh[a]? = some (.inl q.1) ∧ q.2 < jj_nf q.1 then some (pc + 3, lc, r, jj_iu h a q.2 x) else none
    | .boolean => jj_ri st fun a x r => if jj_sh[a]? = some (.inl q.1) ∧ q.2 < jj_nf q.1 ∧ jj_b01 x = true then some (pc + 3, lc, r, jj_iu h a q.2 x) else none
    | .long => jj_rl st fun a x r => if jj_sh[a]? = some (.inl q.1) ∧ q.2 < jj_nf q.1 then some (pc + 3, lc, r, jj_lu h a q.2 x) else none
    | _ => none
  | .iaload => jj_ri st fun a i r => if a = jj_sc then (if jj_inb i h.2.2.1 then some (pc + 1, lc, .int (h.2.2.2 i.toNatClampNeg) :: r, h) else none)
      else match jj_sh[a]? with
      | some (.inr (.int, n)) => if jj_inb i n then some (pc + 1, lc, .int (h.1 a i.toNatClampNeg) :: r, h) else none
      | _ => none
  | .baload => jj_ri st fun a i r => match jj_sh[a]? with
      | some (.inr (.boolean, n)) => if jj_inb i n then some (pc + 1, lc, .int (h.1 a i.toNatClampNeg) :: r, h) else none
      | _ => none
  | .laload => jj_ri st fun a i r => match jj_sh[a]? with
      | some (.inr (.long, n)) => if jj_inb i n then some (pc + 1, lc, .long (h.2.1 a i.toNatClampNeg) :: r, h) else none
      | _ => none
  | .iastore => jj_rii st fun a i x r => match jj_sh[a]? with
      | some (.inr (.int, n)) => if jj_inb i n then some (pc + 1, lc, r, jj_iu h a i.toNatClampNeg x) else none
      | _ => none
  | .bastore => jj_rii st fun a i x r => match jj_sh[a]? with
      | some (.inr (.boolean, n)) => if jj_inb i n ∧ jj_b01 x = true then some (pc + 1, lc, r, jj_iu h a i.toNatClampNeg x) else none
      | _ => none
  | .lastore => jj_ril st fun a i x r => match jj_sh[a]? with
      | some (.inr (.long, n)) => if jj_inb i n then some (pc + 1, lc, r, jj_lu h a i.toNatClampNeg x) else none
      | _ => none
  | .arraylength => jj_r st fun a r => if a = jj_sc then some (pc + 1, lc, .int (Int32.ofNat h.2.2.1) :: r, h) else match jj_sh[a]? with
      | some (.inr (_, n)) => some (pc + 1, lc, .int (Int32.ofNat n) :: r, h)
      | _ => none
  | _ => none
/-- how long an instruction is -/
def jj_len (ins : Instr) (len : Nat) : Nat := match ins with
  | .bipush _ => 2
  | .sipush _ => 3
  | .ldc _ => 2
  | .ldc_w _ => 3
  | .ldc2_w _ => 3
  | .iload _ => 2
  | .lload _ => 2
  | .aload _ => 2
  | .istore _ => 2
  | .lstore _ => 2
  | .astore _ => 2
  | .iinc _ _ => 3
  | .goto _ => 3
  | .ifCond _ _ => 3
  | .if_icmp _ _ => 3
  | .tableswitch _ _ _ _ => len
  | .getfield _ => 3
  | .putfield _ => 3
  | .invokevirtual _ => 3
  | .invokestatic _ => 3
  | _ => 1
def jj_rok (ret : Option FieldType) (x : Int32) : Bool := match ret with
  | some .int => true
  | some .boolean => jj_b01 x
  | _ => false
def jj_aok (ret : Option FieldType) : Bool := match ret with
  | some (.object _) => true
  | some (.array _) => true
  | _ => false
/-- what a method gives back -/
def jj_fin (ret : Option FieldType) (ins : Instr) (st : List Value) : Option (Option Value) := match ins with
  | .ireturn => match st with
    | [.int x] => if jj_rok ret x then some (some (.int x)) else none
    | _ => none
  | .lreturn => match st with
    | [.long x] => if ret = some .long then some (some (.long x)) else none
    | _ => none
  | .areturn => match st with
    | [.ref x] => if jj_aok ret then some (some (.ref x)) else none
    | _ => none
  | .return_ => match st with
    | [] => if ret = none then some none else none
    | _ => none
  | _ => none
/-- the call that an instruction makes: the method, its arguments, what stays of the operands -/
def jj_cal (c : Nat) (ins : Instr) (st : List Value) : Option (jj_M × List Value × List Value) := match ins with
  | .invokevirtual i => (jj_mv c i).bind fun M => match st.drop M.2.2.2.2 with
    | .ref a :: r => if jj_sh[a]? = some (.inl M.2.2.2.1) ∧ (st.take M.2.2.2.2).length = M.2.2.2.2 then some (M, .ref a :: (st.take M.2.2.2.2).reverse, r) else none
    | _ => none
  | .invokestatic i => (jj_ms c i).bind fun M => if (st.take M.2.2.2.2).length = M.2.2.2.2 then some (M, (st.take M.2.2.2.2).reverse, st.drop M.2.2.2.2) else none
  | _ => none
def jj_cok (q : jj_M × List Value × List Value) : Bool := decide (jj_wd q.2.1 ≤ q.1.2.1) && decide ((q.2.2.map fun v => v.category).sum ≤ 8)
def jj_exec : Nat → Nat → jj_M → Nat → List Value → List Value → jj_Hp → Option (Option Value × jj_Hp)
  | 0, _, _, _, _, _, _ => none
  | n + 1, d, M, pc, lc, st, h => match decode M.1.2 pc with
    | .ok (ins, len) => if jj_len ins len = len then
        match jj_fin M.2.2.1 ins st with
        | some r => some (r, h)
        | none => match jj_cal M.2.2.2.1 ins st with
          | some q => if jj_cok q then
              match d with
              | 0 => none
              | d' + 1 => match jj_exec n d' q.1 0 (jj_ent q.2.1 q.1.2.1) [] h with
                | some (r, h1) => jj_exec n (d' + 1) M (pc + 3) lc (r.toList ++ q.2.2) h1
                | none => none
              else none
          | none => match jj_st M.2.2.2.1 ins pc lc st h with
            | some p => jj_exec n d M p.1 p.2.1 p.2.2.1 p.2.2.2
            | none => none
        else none
    | _ => none

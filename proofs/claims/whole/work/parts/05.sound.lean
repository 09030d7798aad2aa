/-! the machine does what our function says: one instruction -/
def jj_tr (ad : Nat → Nat) : Value → Value
  | .ref k => .ref (ad k)
  | v => v
def jj_ce (ad : Nat → Nat) (cA : Nat → ClassId) (h : jj_Hp) (a : Nat) : va_E := match jj_sh[a]? with
  | some (.inl ci) => .inr (ci, (List.range (jj_nf ci)).map fun k => jj_tr ad (jj_gf h a ci k))
  | some (.inr (.long, n)) => .inl (cA a, n, .inr (.inl (h.2.1 a)))
  | some (.inr (_, n)) => .inl (cA a, n, .inl (h.1 a))
  | none => .inr (0, [])
def jj_w (ad : Nat → Nat) (cA : Nat → ClassId) (h : jj_Hp) : va_W := (List.range jj_nc).map fun a => (ad a, jj_ce ad cA h a)
theorem jj_w_get {ad : Nat → Nat} {cA : Nat → ClassId} {h : jj_Hp} {a : Nat} (ha : a < jj_nc) : (jj_w ad cA h)[a]? = some (ad a, jj_ce ad cA h a) := by
  unfold jj_w
  rw [List.getElem?_map, List.getElem?_range ha]
  rfl
theorem jj_w_len {ad : Nat → Nat} {cA : Nat → ClassId} {h : jj_Hp} : (jj_w ad cA h).length = jj_nc := by
  unfold jj_w
  rw [List.length_map, List.length_range]
theorem jj_sh_lt {a : Nat} {x : Nat ⊕ (FieldType × Nat)} (h : jj_sh[a]? = some x) : a < jj_nc := (List.getElem?_eq_some_iff.mp h).1
theorem jj_ce_eq {ad : Nat → Nat} {cA : Nat → ClassId} {h h' : jj_Hp} {a : Nat} (h1 : h'.1 a = h.1 a) (h2 : h'.2.1 a = h.2.1 a) : jj_ce ad cA h' a = jj_ce ad cA h a := by
  unfold jj_ce jj_gf
  rw [h1, h2]
theorem jj_w_set {ad : Nat → Nat} {cA : Nat → ClassId} {h h' : jj_Hp} {a : Nat} {e : va_E} (he : e = jj_ce ad cA h' a) (ho : ∀ q, q ≠ a → h'.1 q = h.1 q ∧ h'.2.1 q = h.2.1 q) : (jj_w ad cA h).set a (ad a, e) = jj_w ad cA h' := by
  apply List.ext_getElem?
  intro i
  rw [List.getElem?_set]
  by_cases hi : i < jj_nc
  · by_cases hia : a = i
    · subst hia
      rw [if_pos rfl, if_pos (by rw [jj_w_len]; exact hi), jj_w_get hi, he]
    · rw [if_neg hia, jj_w_get hi, jj_w_get hi, jj_ce_eq (ho i (fun q => hia q.symm)).1 (ho i (fun q => hia q.symm)).2]
  · have hn : (jj_w ad cA h)[i]? = none := List.getElem?_eq_none (by rw [jj_w_len]; omega)
    have hn' : (jj_w ad cA h')[i]? = none := List.getElem?_eq_none (by rw [jj_w_len]; omega)
    rw [hn, hn']
    by_cases hia : a = i
    · rw [if_pos hia, if_neg (by rw [jj_w_len]; omega)]
    · rw [if_neg hia]
theorem jj_iu_at {h : jj_Hp} {a k : Nat} {x : Int32} : (jj_iu h a k x).1 a = upd (h.1 a) k x := by simp [jj_iu]
theorem jj_iu_ne {h : jj_Hp} {a k q : Nat} {x : Int32} (hq : q ≠ a) : (jj_iu h a k x).1 q = h.1 q := by simp [jj_iu, hq]
theorem jj_lu_at {h : jj_Hp} {a k : Nat} {x : Int64} : (jj_lu h a k x).2.1 a = vp_updL (h.2.1 a) k x := by simp [jj_lu]
theorem jj_lu_ne {h : jj_Hp} {a k q : Nat} {x : Int64} (hq : q ≠ a) : (jj_lu h a k x).2.1 q = h.2.1 q := by simp [jj_lu, hq]
theorem jj_iu_o {h : jj_Hp} {a k : Nat} {x : Int32} : ∀ q, q ≠ a → (jj_iu h a k x).1 q = h.1 q ∧ (jj_iu h a k x).2.1 q = h.2.1 q := fun q hq => ⟨jj_iu_ne hq, rfl⟩
theorem jj_lu_o {h : jj_Hp} {a k : Nat} {x : Int64} : ∀ q, q ≠ a → (jj_lu h a k x).1 q = h.1 q ∧ (jj_lu h a k x).2.1 q = h.2.1 q := fun q hq => ⟨rfl, jj_lu_ne hq⟩
theorem jj_ce_ob {ad : Nat → Nat} {cA : Nat → ClassId} {h : jj_Hp} {a ci : Nat} (hs : jj_sh[a]? = some (.inl ci)) : jj_ce ad cA h a = .inr (ci, (List.range (jj_nf ci)).map fun k => jj_tr ad (jj_gf h a ci k)) := by unfold jj_ce; rw [hs]
theorem jj_ce_i {ad : Nat → Nat} {cA : Nat → ClassId} {h : jj_Hp} {a n : Nat} (hs : jj_sh[a]? = some (.inr (.int, n))) : jj_ce ad cA h a = .inl (cA a, n, .inl (h.1 a)) := by unfold jj_ce; rw [hs]
theorem jj_ce_z {ad : Nat → Nat} {cA : Nat → ClassId} {h : jj_Hp} {a n : Nat} (hs : jj_sh[a]? = some (.inr (.boolean, n))) : jj_ce ad cA h a = .inl (cA a, n, .inl (h.1 a)) := by unfold jj_ce; rw [hs]
theorem jj_ce_l {ad : Nat → Nat} {cA : Nat → ClassId} {h : jj_Hp} {a n : Nat} (hs : jj_sh[a]? = some (.inr (.long, n))) : jj_ce ad cA h a = .inl (cA a, n, .inr (.inl (h.2.1 a))) := by unfold jj_ce; rw [hs]
theorem jj_fs_get {ad : Nat → Nat} {h : jj_Hp} {a ci k : Nat} (hk : k < jj_nf ci) : ((List.range (jj_nf ci)).map fun k => jj_tr ad (jj_gf h a ci k))[k]? = some (jj_tr ad (jj_gf h a ci k)) := by
  rw [List.getElem?_map, List.getElem?_range hk]; rfl
theorem jj_fs_set {ad : Nat → Nat} {h h' : jj_Hp} {a ci k : Nat} {v : Value} (hk : k < jj_nf ci) (hv : v = jj_tr ad (jj_gf h' a ci k)) (ho : ∀ j, j ≠ k → jj_gf h' a ci j = jj_gf h a ci j) : ((List.range (jj_nf ci)).map fun k => jj_tr ad (jj_gf h a ci k)).set k v = (List.range (jj_nf ci)).map fun k => jj_tr ad (jj_gf h' a ci k) := by
  apply List.ext_getElem?
  intro i
  rw [List.getElem?_set]
  by_cases hi : i < jj_nf ci
  · by_cases hia : k = i
    · subst hia
      rw [if_pos rfl, if_pos (by simpa using hi), jj_fs_get hi, hv]
    · rw [if_neg hia, jj_fs_get hi, jj_fs_get hi, ho i (fun q => hia q.symm)]
  · rw [List.getElem?_eq_none (by simp; omega), List.getElem?_eq_none (by simp; omega)]
    by_cases hia : k = i
    · omega
    · rw [if_neg hia]
theorem jj_gf_iu {h : jj_Hp} {a ci k j : Nat} {x : Int32} (hj : j ≠ k) : jj_gf (jj_iu h a k x) a ci j = jj_gf h a ci j := by
  unfold jj_gf
  rw [jj_iu_at, show upd (h.1 a) k x j = h.1 a j from if_neg hj]
  rfl
theorem jj_gf_lu {h : jj_Hp} {a ci k j : Nat} {x : Int64} (hj : j ≠ k) : jj_gf (jj_lu h a k x) a ci j = jj_gf h a ci j := by
  unfold jj_gf
  rw [jj_lu_at, show vp_updL (h.2.1 a) k x j = h.2.1 a j from if_neg hj]
  rfl
theorem jj_gf_int {h : jj_Hp} {a ci k : Nat} (hf : jj_fty ci k = .int) : jj_gf h a ci k = .int (h.1 a k) := by unfold jj_gf; rw [hf]
theorem jj_gf_bool {h : jj_Hp} {a ci k : Nat} (hf : jj_fty ci k = .boolean) : jj_gf h a ci k = .int (h.1 a k) := by unfold jj_gf; rw [hf]
theorem jj_gf_long {h : jj_Hp} {a ci k : Nat} (hf : jj_fty ci k = .long) : jj_gf h a ci k = .long (h.2.1 a k) := by unfold jj_gf; rw [hf]
theorem jj_upd_at {f : Nat → Int32} {k : Nat} {x : Int32} : upd f k x k = x := if_pos rfl
theorem jj_updL_at {f : Nat → Int64} {k : Nat} {x : Int64} : vp_updL f k x k = x := if_pos rfl
theorem jj_inb_in {i : Int32} {n : Nat} (h : jj_inb i n = true) : vp_in i n := by
  unfold jj_inb at h
  simp only [Bool.and_eq_true, decide_eq_true_eq] at h
  intro q
  rcases q with q | q
  · have h1 := Int32.le_iff_toInt_le.mp h.1
    have h2 := Int32.lt_iff_toInt_lt.mp q
    omega
  · omega
/-- the locals -/
def jj_L (ad : Nat → Nat) (ls : Array Slot) (nL : Nat) (lc : List Value) : Prop := lv_has ls nL [] ∧ lc.length = nL ∧ ∀ (i : Nat) (v : Value), lc[i]? = some v → v ≠ .null → ls[i]? = some (.val (jj_tr ad v))
def jj_al (ad : Nat → Nat) (lc : List Value) : List (Nat × Value) := (List.range lc.length).filterMap fun (i : Nat) => match (lc[i]? : Option Value) with
  | some Value.null => none
  | some v => some (i, jj_tr ad v)
  | none => none
theorem jj_al_in {ad : Nat → Nat} {lc : List Value} {i : Nat} {v : Value} (h : lc[i]? = some v) (hv : v ≠ .null) : (i, jj_tr ad v) ∈ jj_al ad lc := by
  refine List.mem_filterMap.mpr ⟨i, List.mem_range.mpr (List.getElem?_eq_some_iff.mp h).1, ?_⟩
  rw [h]
  cases v <;> first | rfl | exact absurd rfl hv
theorem jj_al_of {ad : Nat → Nat} {lc : List Value} {q : Nat × Value} (h : q ∈ jj_al ad lc) : ∃ v, lc[q.1]? = some v ∧ v ≠ .null ∧ q.2 = jj_tr ad v := by
  obtain ⟨i, hi, he⟩ := List.mem_filterMap.mp h
  have hi' := List.mem_range.mp hi
  rw [List.getElem?_eq_getElem hi'] at he
  split at he
  · cases he
  · next v hn hv =>
    cases he
    refine ⟨v, ?_, ?_, rfl⟩
    · exact (List.getElem?_eq_getElem hi').trans hv
    · intro q; exact hn (by rw [← q])
  · cases he
theorem jj_L.has {ad : Nat → Nat} {ls : Array Slot} {nL : Nat} {lc : List Value} (h : jj_L ad ls nL lc) : lv_has ls nL (jj_al ad lc) := by
  refine ⟨h.1.1, h.1.2.1, fun q hq => ?_⟩
  obtain ⟨v, h1, h2, h3⟩ := jj_al_of hq
  rw [h3]
  exact h.2.2 q.1 v h1 h2
theorem jj_tr_cat (ad : Nat → Nat) (v : Value) : (jj_tr ad v).category = v.category := by cases v <;> rfl
theorem jj_set_len : ∀ (lc : List Value) (i : Nat) (v : Value), (jj_set lc i v).length = lc.length
  | [], i, v => by cases i <;> rfl
  | a :: l, 0, v => rfl
  | a :: l, 1, v => by simp [jj_set, jj_set_len l 0 v]
  | a :: l, i + 2, v => by simp [jj_set, jj_set_len l (i + 1) v]
theorem jj_set_get : ∀ (lc : List Value) (i : Nat) (v : Value) (k : Nat) (w : Value), (jj_set lc i v)[k]? = some w → (k = i ∧ w = v) ∨ (k ≠ i ∧ k + 1 = i ∧ ∃ u, lc[k]? = some u ∧ w = jj_clr u) ∨ (k ≠ i ∧ k + 1 ≠ i ∧ lc[k]? = some w)
  | [], i, v, k, w, h => by
    have e : jj_set [] i v = [] := by cases i <;> rfl
    rw [e] at h; simp at h
  | a :: l, 0, v, 0, w, h => by
    have h : some v = some w := h
    exact Or.inl ⟨rfl, (Option.some.inj h).symm⟩
  | a :: l, 0, v, k + 1, w, h => Or.inr (Or.inr ⟨by omega, by omega, h⟩)
  | a :: l, 1, v, 0, w, h => by
    have h : some (jj_clr a) = some w := h
    exact Or.inr (Or.inl ⟨by omega, rfl, a, rfl, (Option.some.inj h).symm⟩)
  | a :: l, 1, v, k + 1, w, h => by
    have h : (jj_set l 0 v)[k]? = some w := h
    rcases jj_set_get l 0 v k w h with ⟨h1, h2⟩ | ⟨h0, h1, u, h2, h3⟩ | ⟨h0, h1, h2⟩
    · exact Or.inl ⟨by omega, h2⟩
    · omega
    · exact Or.inr (Or.inr ⟨by omega, by omega, h2⟩)
  | a :: l, i + 2, v, 0, w, h => Or.inr (Or.inr ⟨by omega, by omega, h⟩)
  | a :: l, i + 2, v, k + 1, w, h => by
    have h : (jj_set l (i + 1) v)[k]? = some w := h
    rcases jj_set_get l (i + 1) v k w h with ⟨h1, h2⟩ | ⟨h0, h1, u, h2, h3⟩ | ⟨h0, h1, h2⟩
    · exact Or.inl ⟨by omega, h2⟩
    · exact Or.inr (Or.inl ⟨by omega, by omega, u, h2, h3⟩)
    · exact Or.inr (Or.inr ⟨by omega, by omega, h2⟩)
theorem jj_clr_ne {u : Value} (h : jj_clr u ≠ .null) : jj_clr u = u ∧ u.category = 1 := by
  cases u <;> first | exact ⟨rfl, rfl⟩ | exact absurd rfl h
theorem jj_L.set1 {ad : Nat → Nat} {ls ls' : Array Slot} {nL i : Nat} {lc : List Value} {v : Value} (h : jj_L ad ls nL lc) (h' : lv_has ls' nL ((i, jj_tr ad v) :: (jj_al ad lc).filter (fun q => !(q.1 == i) && !(q.1 + 1 == i && q.2.category == 2)))) : jj_L ad ls' nL (jj_set lc i v) := by
  refine ⟨⟨h'.1, h'.2.1, fun q hq => by cases hq⟩, by rw [jj_set_len]; exact h.2.1, fun k w hk hw => ?_⟩
  rcases jj_set_get lc i v k w hk with ⟨h1, h2⟩ | ⟨h0, h1, u, h2, h3⟩ | ⟨h0, h1, h2⟩
  · rw [h1, h2]
    exact h'.2.2 (i, jj_tr ad v) List.mem_cons_self
  · rw [h3] at hw
    obtain ⟨e1, e2⟩ := jj_clr_ne hw
    rw [h3, e1]
    rw [e1] at hw
    refine h'.2.2 (k, jj_tr ad u) (List.mem_cons_of_mem _ (List.mem_filter.mpr ⟨jj_al_in h2 hw, ?_⟩))
    show (!(k == i) && !(k + 1 == i && (jj_tr ad u).category == 2)) = true
    rw [jj_tr_cat, e2]
    simp [h0]
  · refine h'.2.2 (k, jj_tr ad w) (List.mem_cons_of_mem _ (List.mem_filter.mpr ⟨jj_al_in h2 hw, ?_⟩))
    show (!(k == i) && !(k + 1 == i && (jj_tr ad w).category == 2)) = true
    simp [h0, h1]
theorem jj_L.set2 {ad : Nat → Nat} {ls ls' : Array Slot} {nL i : Nat} {lc : List Value} {v : Value} (h : jj_L ad ls nL lc) (h' : lv_has ls' nL ((i, jj_tr ad v) :: (jj_al ad lc).filter (fun q => !(q.1 == i) && (!(q.1 == i + 1) && !(q.1 + 1 == i && q.2.category == 2))))) : jj_L ad ls' nL (jj_set2 lc i v) := by
  refine ⟨⟨h'.1, h'.2.1, fun q hq => by cases hq⟩, by unfold jj_set2; rw [List.length_set, jj_set_len]; exact h.2.1, fun k w hk hw => ?_⟩
  unfold jj_set2 at hk
  rw [List.getElem?_set] at hk
  by_cases hki : i + 1 = k
  · rw [if_pos hki] at hk
    split at hk
    · cases hk; exact absurd rfl hw
    · cases hk
  rw [if_neg hki] at hk
  rcases jj_set_get lc i v k w hk with ⟨h1, h2⟩ | ⟨h0, h1, u, h2, h3⟩ | ⟨h0, h1, h2⟩
  · rw [h1, h2]
    exact h'.2.2 (i, jj_tr ad v) List.mem_cons_self
  · rw [h3] at hw
    obtain ⟨e1, e2⟩ := jj_clr_ne hw
    rw [h3, e1]
    rw [e1] at hw
    refine h'.2.2 (k, jj_tr ad u) (List.mem_cons_of_mem _ (List.mem_filter.mpr ⟨jj_al_in h2 hw, ?_⟩))
    show (!(k == i) && (!(k == i + 1) && !(k + 1 == i && (jj_tr ad u).category == 2))) = true
    rw [jj_tr_cat, e2]
    have hk2 : k ≠ i + 1 := fun q => hki q.symm
    simp [h0, hk2]
  · refine h'.2.2 (k, jj_tr ad w) (List.mem_cons_of_mem _ (List.mem_filter.mpr ⟨jj_al_in h2 hw, ?_⟩))
    show (!(k == i) && (!(k == i + 1) && !(k + 1 == i && (jj_tr ad w).category == 2))) = true
    have hk2 : k ≠ i + 1 := fun q => hki q.symm
    simp [h0, h1, hk2]
theorem jj_gi_at {ad : Nat → Nat} {ls : Array Slot} {nL i : Nat} {lc : List Value} {x : Int32} (h : jj_L ad ls nL lc) (hg : jj_gi lc i = some x) : lc[i]? = some (.int x) ∧ ls[i]? = some (.val (.int x)) := by
  unfold jj_gi at hg
  split at hg
  · next y hy =>
    cases hg
    exact ⟨hy, h.2.2 i (.int x) hy (by simp)⟩
  · cases hg
theorem jj_gl_at {ad : Nat → Nat} {ls : Array Slot} {nL i : Nat} {lc : List Value} {x : Int64} (h : jj_L ad ls nL lc) (hg : jj_gl lc i = some x) : lc[i]? = some (.long x) ∧ ls[i]? = some (.val (.long x)) := by
  unfold jj_gl at hg
  split at hg
  · next y hy =>
    cases hg
    exact ⟨hy, h.2.2 i (.long x) hy (by simp)⟩
  · cases hg
theorem jj_gr_at {ad : Nat → Nat} {ls : Array Slot} {nL i : Nat} {lc : List Value} {x : Nat} (h : jj_L ad ls nL lc) (hg : jj_gr lc i = some x) : lc[i]? = some (.ref x) ∧ ls[i]? = some (.val (.ref (ad x))) := by
  unfold jj_gr at hg
  split at hg
  · next y hy =>
    cases hg
    exact ⟨hy, h.2.2 i (.ref x) hy (by simp)⟩
  · cases hg
theorem jj_jmp_at {pc t : Nat} {off : Int} (h : jj_jmp pc off = some t) : (pc : Int) + off = (t : Int) := by
  unfold jj_jmp at h
  split at h
  · cases h; omega
  · cases h
/-- which cells a frame may write -/
def jj_A (ad : Nat → Nat) (sz : Nat) : Nat → Prop := fun q => (∃ k, k < jj_nc ∧ q = ad k) ∨ sz ≤ q
def jj_Ad (ad : Nat → Nat) (b : Nat) : Prop := (∀ i j, i < jj_nc → j < jj_nc → ad i = ad j → i = j) ∧ (∀ i, i < jj_nc → ad i ≠ b) ∧ ad jj_sc = b
/-- what holds of a frame of method M: the machine, the code, the words, the classes of cells, the script -/
def jj_Cx (D : va_G) (cA : Nat → ClassId) (b : Nat) (sc : Nat × (Nat → Int32)) (p : Program) (R : Room) (s : State) (m : MethodId) (args : Array Value) (meth : Method) (c : Code) (M : jj_M) (d : Nat) : Prop :=
  p.tables.exec = Jvm.exec ∧ c.code = M.1.2 ∧ meth.sig.returnType = M.2.2.1 ∧ meth.locks = false ∧ c.maxLocals = M.2.1 ∧ s.vm.findClass (jj_R M.2.2.2.1) = some m.cls ∧ (∀ w ∈ jj_wl, w.before args s = true) ∧ va_K D vwCl [] s ∧ (∀ a t n, jj_sh[a]? = some (.inr (t, n)) → va_K D vwCl [(cA a, t)] s) ∧ va_X b sc.1 sc.2 s s.heap ∧ b < s.heap.size ∧ d ≤ R.frames ∧ 60 * d ≤ R.locals
theorem jj_Dd {ad : Nat → Nat} {b sz : Nat} (hA : jj_Ad ad b) (cA : Nat → ClassId) (h : jj_Hp) : va_D (jj_A ad sz) (jj_w ad cA h) := by
  have key : ∀ (i : Nat) (p : Nat × va_E), (jj_w ad cA h)[i]? = some p → i < jj_nc ∧ p.1 = ad i := by
    intro i p hp
    have hi : i < jj_nc := by
      have := (List.getElem?_eq_some_iff.mp hp).1
      rwa [jj_w_len] at this
    rw [jj_w_get hi] at hp
    cases hp
    exact ⟨hi, rfl⟩
  refine ⟨fun i j p q hp hq he => ?_, fun k q hk => ?_⟩
  · obtain ⟨h1, h2⟩ := key i p hp
    obtain ⟨h3, h4⟩ := key j q hq
    exact hA.1 i j h1 h3 (by rw [← h2, ← h4]; exact he)
  · obtain ⟨h1, h2⟩ := key k q hk
    exact Or.inl ⟨k, h1, h2⟩
theorem jj_nb {ad : Nat → Nat} {b sz : Nat} (hA : jj_Ad ad b) (hb : b < sz) : ¬ jj_A ad sz b := by
  rintro (⟨k, hk, he⟩ | h)
  · exact hA.2.1 k hk he.symm
  · omega
theorem jj_look {α : Type} {l : List (Nat × α)} {i : Nat} {x : α} (h : l.lookup i = some x) : (i, x) ∈ l := by
  induction l with
  | nil => cases h
  | cons q t ih =>
    obtain ⟨k, v⟩ := q
    rw [List.lookup_cons] at h
    split at h
    · next e =>
      cases h
      have : i = k := by simpa using e
      subst this
      exact List.mem_cons_self
    · exact List.mem_cons_of_mem _ (ih h)
theorem jj_b01_or {x : Int32} (h : jj_b01 x = true) : x = 0 ∨ x = 1 := by
  unfold jj_b01 at h
  simpa using h
theorem jj_bmap {α β γ : Type} {o : Option α} {f : α → Option β} {z : β} (h : o.bind f = some z) : ∃ q, o = some q ∧ f q = some z := by
  cases o with
  | none => cases h
  | some q => exact ⟨q, rfl, h⟩
theorem jj_omap {α β : Type} {o : Option α} {f : α → β} {z : β} (h : o.map f = some z) : ∃ q, o = some q ∧ f q = z := by
  cases o with
  | none => cases h
  | some q => exact ⟨q, rfl, Option.some.inj h⟩
def jj_StS (M : jj_M) (pc : Nat) (lc st : List Value) (h : jj_Hp) (P : jj_P) : Prop :=
  ∀ {l : Launch} {D : va_G} {ad : Nat → Nat} {cA : Nat → ClassId} {b : Nat} {sc : Nat × (Nat → Int32)} {p : Program} {e : Env} {R : Room} {s : State} {m : MethodId} {args : Array Value} {below : List Frame} {meth : Method} {c : Code} {d : Nat} {H : Heap} {locs : List Loc} {cells slots : Nat} {Q : State → Prop} {ls : Array Slot},
    jj_Ad ad b → jj_Cx D cA b sc p R s m args meth c M d → h.2.2 = sc → va_P D vwCl (jj_w ad cA h) H → va_S (jj_A ad s.heap.size) s.heap H locs → jj_L ad ls M.2.1 lc →
    (∀ (H1 : Heap) (locs1 : List Loc) (ls1 : Array Slot), va_P D vwCl (jj_w ad cA P.2.2.2) H1 → va_S (jj_A ad s.heap.size) s.heap H1 locs1 → jj_L ad ls1 M.2.1 P.2.1 → W p l e R s m args below meth c H1 locs1 cells slots Q (F0 m P.1 ls1 (P.2.2.1.map (jj_tr ad)))) →
    W p l e R s m args below meth c H locs cells slots Q (F0 m pc ls (st.map (jj_tr ad)))
set_option maxHeartbeats 4000000 in
set_option maxRecDepth 100000 in
theorem jj_step {M : jj_M} {ins : Instr} {len pc : Nat} {lc st : List Value} {h : jj_Hp} {P : jj_P} (hd : decode M.1.2 pc = .ok (ins, len)) (hlen : jj_len ins len = len) (hs : jj_st M.2.2.2.1 ins pc lc st h = some P) : P.2.2.2.2.2 = h.2.2 ∧ jj_StS M pc lc st h P := by
  cases ins with
  | iconst q =>
    obtain rfl : 1 = len := hlen
    cases hs
    refine ⟨rfl, ?_⟩
    intro l D ad cA b sc p e R s m args below meth c d H locs cells slots Q ls hAd Cx hsc hP hS hl k
    obtain ⟨hx, hb, hr, hlk, hml, hown, hts, hK, hKa, hX, hbl, hfr, hlo⟩ := Cx
    exact lv_iconst hx hb hd rfl (k _ _ _ hP hS hl)
  | bipush q =>
    obtain rfl : 2 = len := hlen
    cases hs
    refine ⟨rfl, ?_⟩
    intro l D ad cA b sc p e R s m args below meth c d H locs cells slots Q ls hAd Cx hsc hP hS hl k
    obtain ⟨hx, hb, hr, hlk, hml, hown, hts, hK, hKa, hX, hbl, hfr, hlo⟩ := Cx
    exact lv_bipush hx hb hd rfl (k _ _ _ hP hS hl)
  | sipush q =>
    obtain rfl : 3 = len := hlen
    cases hs
    refine ⟨rfl, ?_⟩
    intro l D ad cA b sc p e R s m args below meth c d H locs cells slots Q ls hAd Cx hsc hP hS hl k
    obtain ⟨hx, hb, hr, hlk, hml, hown, hts, hK, hKa, hX, hbl, hfr, hlo⟩ := Cx
    exact lv_sipush hx hb hd rfl (k _ _ _ hP hS hl)
  | lconst q =>
    obtain rfl : 1 = len := hlen
    cases hs
    refine ⟨rfl, ?_⟩
    intro l D ad cA b sc p e R s m args below meth c d H locs cells slots Q ls hAd Cx hsc hP hS hl k
    obtain ⟨hx, hb, hr, hlk, hml, hown, hts, hK, hKa, hX, hbl, hfr, hlo⟩ := Cx
    exact lv_lconst hx hb hd rfl (k _ _ _ hP hS hl)
  | ldc q =>
    obtain rfl : 2 = len := hlen
    obtain ⟨x, hg, rfl⟩ := jj_omap hs
    refine ⟨rfl, ?_⟩
    intro l D ad cA b sc p e R s m args below meth c d H locs cells slots Q ls hAd Cx hsc hP hS hl k
    obtain ⟨hx, hb, hr, hlk, hml, hown, hts, hK, hKa, hX, hbl, hfr, hlo⟩ := Cx
    exact lv_ldc hx hb hown (hts _ (jj_ld_ok _ (q, x) (jj_look hg))) hd (k _ _ _ hP hS hl)
  | ldc_w q =>
    obtain rfl : 3 = len := hlen
    obtain ⟨x, hg, rfl⟩ := jj_omap hs
    refine ⟨rfl, ?_⟩
    intro l D ad cA b sc p e R s m args below meth c d H locs cells slots Q ls hAd Cx hsc hP hS hl k
    obtain ⟨hx, hb, hr, hlk, hml, hown, hts, hK, hKa, hX, hbl, hfr, hlo⟩ := Cx
    exact lv_ldcw hx hb hown (hts _ (jj_ld_ok _ (q, x) (jj_look hg))) hd (k _ _ _ hP hS hl)
  | ldc2_w q =>
    obtain rfl : 3 = len := hlen
    obtain ⟨x, hg, rfl⟩ := jj_omap hs
    refine ⟨rfl, ?_⟩
    intro l D ad cA b sc p e R s m args below meth c d H locs cells slots Q ls hAd Cx hsc hP hS hl k
    obtain ⟨hx, hb, hr, hlk, hml, hown, hts, hK, hKa, hX, hbl, hfr, hlo⟩ := Cx
    exact lv_ldc2 hx hb hown (hts _ (jj_ll_ok _ (q, x) (jj_look hg))) hd (k _ _ _ hP hS hl)
  | iload q =>
    obtain rfl : 2 = len := hlen
    obtain ⟨x, hg, rfl⟩ := jj_omap hs
    refine ⟨rfl, ?_⟩
    intro l D ad cA b sc p e R s m args below meth c d H locs cells slots Q ls hAd Cx hsc hP hS hl k
    obtain ⟨hx, hb, hr, hlk, hml, hown, hts, hK, hKa, hX, hbl, hfr, hlo⟩ := Cx
    exact lv_iload hx hb hd (jj_gi_at hl hg).2 (k _ _ _ hP hS hl)
  | iload_n q =>
    obtain rfl : 1 = len := hlen
    obtain ⟨x, hg, rfl⟩ := jj_omap hs
    refine ⟨rfl, ?_⟩
    intro l D ad cA b sc p e R s m args below meth c d H locs cells slots Q ls hAd Cx hsc hP hS hl k
    obtain ⟨hx, hb, hr, hlk, hml, hown, hts, hK, hKa, hX, hbl, hfr, hlo⟩ := Cx
    exact lv_iload_n hx hb hd rfl (jj_gi_at hl hg).2 (k _ _ _ hP hS hl)
  | lload q =>
    obtain rfl : 2 = len := hlen
    obtain ⟨x, hg, rfl⟩ := jj_omap hs
    refine ⟨rfl, ?_⟩
    intro l D ad cA b sc p e R s m args below meth c d H locs cells slots Q ls hAd Cx hsc hP hS hl k
    obtain ⟨hx, hb, hr, hlk, hml, hown, hts, hK, hKa, hX, hbl, hfr, hlo⟩ := Cx
    exact lv_lload hx hb hd (jj_gl_at hl hg).2 (k _ _ _ hP hS hl)
  | lload_n q =>
    obtain rfl : 1 = len := hlen
    obtain ⟨x, hg, rfl⟩ := jj_omap hs
    refine ⟨rfl, ?_⟩
    intro l D ad cA b sc p e R s m args below meth c d H locs cells slots Q ls hAd Cx hsc hP hS hl k
    obtain ⟨hx, hb, hr, hlk, hml, hown, hts, hK, hKa, hX, hbl, hfr, hlo⟩ := Cx
    exact lv_lload_n hx hb hd rfl (jj_gl_at hl hg).2 (k _ _ _ hP hS hl)
  | aload q =>
    obtain rfl : 2 = len := hlen
    obtain ⟨x, hg, rfl⟩ := jj_omap hs
    refine ⟨rfl, ?_⟩
    intro l D ad cA b sc p e R s m args below meth c d H locs cells slots Q ls hAd Cx hsc hP hS hl k
    obtain ⟨hx, hb, hr, hlk, hml, hown, hts, hK, hKa, hX, hbl, hfr, hlo⟩ := Cx
    exact lv_aload hx hb hd (jj_gr_at hl hg).2 (k _ _ _ hP hS hl)
  | aload_n q =>
    obtain rfl : 1 = len := hlen
    obtain ⟨x, hg, rfl⟩ := jj_omap hs
    refine ⟨rfl, ?_⟩
    intro l D ad cA b sc p e R s m args below meth c d H locs cells slots Q ls hAd Cx hsc hP hS hl k
    obtain ⟨hx, hb, hr, hlk, hml, hown, hts, hK, hKa, hX, hbl, hfr, hlo⟩ := Cx
    exact lv_aload_n hx hb hd rfl (jj_gr_at hl hg).2 (k _ _ _ hP hS hl)
  | istore q =>
    obtain rfl : 2 = len := hlen
    obtain ⟨x, r, rfl, h1⟩ := jj_i_inv hs
    by_cases hi : (q : Nat) < lc.length
    rotate_left
    · rw [if_neg hi] at h1; cases h1
    rw [if_pos hi] at h1
    cases h1
    refine ⟨rfl, ?_⟩
    intro l D ad cA b sc p e R s m args below meth c d H locs cells slots Q ls hAd Cx hsc hP hS hl k
    obtain ⟨hx, hb, hr, hlk, hml, hown, hts, hK, hKa, hX, hbl, hfr, hlo⟩ := Cx
    exact lv_istore hx hb hd (jj_L.has hl) (by have := hl.2.1; omega) rfl (fun ls1 h1 => k _ _ _ hP hS (jj_L.set1 (v := .int x) hl h1))
  | istore_n q =>
    obtain rfl : 1 = len := hlen
    obtain ⟨x, r, rfl, h1⟩ := jj_i_inv hs
    by_cases hi : (q : Nat) < lc.length
    rotate_left
    · rw [if_neg hi] at h1; cases h1
    rw [if_pos hi] at h1
    cases h1
    refine ⟨rfl, ?_⟩
    intro l D ad cA b sc p e R s m args below meth c d H locs cells slots Q ls hAd Cx hsc hP hS hl k
    obtain ⟨hx, hb, hr, hlk, hml, hown, hts, hK, hKa, hX, hbl, hfr, hlo⟩ := Cx
    exact lv_istore_n hx hb hd rfl (jj_L.has hl) (by have := hl.2.1; omega) rfl (fun ls1 h1 => k _ _ _ hP hS (jj_L.set1 (v := .int x) hl h1))
  | astore q =>
    obtain rfl : 2 = len := hlen
    obtain ⟨x, r, rfl, h1⟩ := jj_r_inv hs
    by_cases hi : (q : Nat) < lc.length
    rotate_left
    · rw [if_neg hi] at h1; cases h1
    rw [if_pos hi] at h1
    cases h1
    refine ⟨rfl, ?_⟩
    intro l D ad cA b sc p e R s m args below meth c d H locs cells slots Q ls hAd Cx hsc hP hS hl k
    obtain ⟨hx, hb, hr, hlk, hml, hown, hts, hK, hKa, hX, hbl, hfr, hlo⟩ := Cx
    exact lv_astore hx hb hd (jj_L.has hl) (by have := hl.2.1; omega) rfl (fun ls1 h1 => k _ _ _ hP hS (jj_L.set1 (v := .ref x) hl h1))
  | astore_n q =>
    obtain rfl : 1 = len := hlen
    obtain ⟨x, r, rfl, h1⟩ := jj_r_inv hs
    by_cases hi : (q : Nat) < lc.length
    rotate_left
    · rw [if_neg hi] at h1; cases h1
    rw [if_pos hi] at h1
    cases h1
    refine ⟨rfl, ?_⟩
    intro l D ad cA b sc p e R s m args below meth c d H locs cells slots Q ls hAd Cx hsc hP hS hl k
    obtain ⟨hx, hb, hr, hlk, hml, hown, hts, hK, hKa, hX, hbl, hfr, hlo⟩ := Cx
    exact lv_astore_n hx hb hd rfl (jj_L.has hl) (by have := hl.2.1; omega) rfl (fun ls1 h1 => k _ _ _ hP hS (jj_L.set1 (v := .ref x) hl h1))
  | lstore q =>
    obtain rfl : 2 = len := hlen
    obtain ⟨x, r, rfl, h1⟩ := jj_l_inv hs
    by_cases hi : (q : Nat) + 1 < lc.length
    rotate_left
    · rw [if_neg hi] at h1; cases h1
    rw [if_pos hi] at h1
    cases h1
    refine ⟨rfl, ?_⟩
    intro l D ad cA b sc p e R s m args below meth c d H locs cells slots Q ls hAd Cx hsc hP hS hl k
    obtain ⟨hx, hb, hr, hlk, hml, hown, hts, hK, hKa, hX, hbl, hfr, hlo⟩ := Cx
    exact lv_lstore hx hb hd (jj_L.has hl) (by have := hl.2.1; omega) rfl (fun ls1 h1 => k _ _ _ hP hS (jj_L.set2 (v := .long x) hl h1))
  | lstore_n q =>
    obtain rfl : 1 = len := hlen
    obtain ⟨x, r, rfl, h1⟩ := jj_l_inv hs
    by_cases hi : (q : Nat) + 1 < lc.length
    rotate_left
    · rw [if_neg hi] at h1; cases h1
    rw [if_pos hi] at h1
    cases h1
    refine ⟨rfl, ?_⟩
    intro l D ad cA b sc p e R s m args below meth c d H locs cells slots Q ls hAd Cx hsc hP hS hl k
    obtain ⟨hx, hb, hr, hlk, hml, hown, hts, hK, hKa, hX, hbl, hfr, hlo⟩ := Cx
    exact lv_lstore_n hx hb hd rfl (jj_L.has hl) (by have := hl.2.1; omega) rfl (fun ls1 h1 => k _ _ _ hP hS (jj_L.set2 (v := .long x) hl h1))
  | iinc q z =>
    obtain rfl : 3 = len := hlen
    obtain ⟨x, hg, rfl⟩ := jj_omap hs
    refine ⟨rfl, ?_⟩
    intro l D ad cA b sc p e R s m args below meth c d H locs cells slots Q ls hAd Cx hsc hP hS hl k
    obtain ⟨hx, hb, hr, hlk, hml, hown, hts, hK, hKa, hX, hbl, hfr, hlo⟩ := Cx
    obtain ⟨g1, g2⟩ := jj_gi_at hl hg
    obtain ⟨u, hu⟩ := List.getElem?_of_mem (jj_al_in (ad := ad) g1 (by simp))
    exact lv_iinc hx hb hd (jj_L.has hl) hu rfl (by have := hl.2.1; have := (List.getElem?_eq_some_iff.mp g1).1; omega) rfl (fun ls1 h1 => k _ _ _ hP hS (jj_L.set1 (v := .int (x + Int32.ofInt z)) hl h1))
  | dup =>
    obtain rfl : 1 = len := hlen
    have hs : jj_du st (fun v r => some (pc + 1, lc, v :: v :: r, h)) = some P := hs
    obtain ⟨v, r, rfl, hv, h1⟩ := jj_du_inv hs
    cases h1
    refine ⟨rfl, ?_⟩
    intro l D ad cA b sc p e R s m args below meth c d H locs cells slots Q ls hAd Cx hsc hP hS hl k
    obtain ⟨hx, hb, hr, hlk, hml, hown, hts, hK, hKa, hX, hbl, hfr, hlo⟩ := Cx
    exact lv_dup hx hb hd (by rw [jj_tr_cat]; exact hv) (k _ _ _ hP hS hl)
  | dup2 =>
    obtain rfl : 1 = len := hlen
    obtain ⟨a, i, r, rfl, h1⟩ := jj_ri_inv hs
    cases h1
    refine ⟨rfl, ?_⟩
    intro l D ad cA b sc p e R s m args below meth c d H locs cells slots Q ls hAd Cx hsc hP hS hl k
    obtain ⟨hx, hb, hr, hlk, hml, hown, hts, hK, hKa, hX, hbl, hfr, hlo⟩ := Cx
    exact lv_dup2_11 hx hb hd rfl rfl (k _ _ _ hP hS hl)
  | iadd =>
    obtain rfl : 1 = len := hlen
    obtain ⟨x, y, r, rfl, h1⟩ := jj_ii_inv hs
    cases h1
    refine ⟨rfl, ?_⟩
    intro l D ad cA b sc p e R s m args below meth c d H locs cells slots Q ls hAd Cx hsc hP hS hl k
    obtain ⟨hx, hb, hr, hlk, hml, hown, hts, hK, hKa, hX, hbl, hfr, hlo⟩ := Cx
    exact lv_iadd hx hb hd (k _ _ _ hP hS hl)
  | isub =>
    obtain rfl : 1 = len := hlen
    obtain ⟨x, y, r, rfl, h1⟩ := jj_ii_inv hs
    cases h1
    refine ⟨rfl, ?_⟩
    intro l D ad cA b sc p e R s m args below meth c d H locs cells slots Q ls hAd Cx hsc hP hS hl k
    obtain ⟨hx, hb, hr, hlk, hml, hown, hts, hK, hKa, hX, hbl, hfr, hlo⟩ := Cx
    exact lv_isub hx hb hd (k _ _ _ hP hS hl)
  | imul =>
    obtain rfl : 1 = len := hlen
    obtain ⟨x, y, r, rfl, h1⟩ := jj_ii_inv hs
    cases h1
    refine ⟨rfl, ?_⟩
    intro l D ad cA b sc p e R s m args below meth c d H locs cells slots Q ls hAd Cx hsc hP hS hl k
    obtain ⟨hx, hb, hr, hlk, hml, hown, hts, hK, hKa, hX, hbl, hfr, hlo⟩ := Cx
    exact lv_imul hx hb hd (k _ _ _ hP hS hl)
  | iand =>
    obtain rfl : 1 = len := hlen
    obtain ⟨x, y, r, rfl, h1⟩ := jj_ii_inv hs
    cases h1
    refine ⟨rfl, ?_⟩
    intro l D ad cA b sc p e R s m args below meth c d H locs cells slots Q ls hAd Cx hsc hP hS hl k
    obtain ⟨hx, hb, hr, hlk, hml, hown, hts, hK, hKa, hX, hbl, hfr, hlo⟩ := Cx
    exact lv_iand hx hb hd (k _ _ _ hP hS hl)
  | ior =>
    obtain rfl : 1 = len := hlen
    obtain ⟨x, y, r, rfl, h1⟩ := jj_ii_inv hs
    cases h1
    refine ⟨rfl, ?_⟩
    intro l D ad cA b sc p e R s m args below meth c d H locs cells slots Q ls hAd Cx hsc hP hS hl k
    obtain ⟨hx, hb, hr, hlk, hml, hown, hts, hK, hKa, hX, hbl, hfr, hlo⟩ := Cx
    exact lv_ior hx hb hd (k _ _ _ hP hS hl)
  | ixor =>
    obtain rfl : 1 = len := hlen
    obtain ⟨x, y, r, rfl, h1⟩ := jj_ii_inv hs
    cases h1
    refine ⟨rfl, ?_⟩
    intro l D ad cA b sc p e R s m args below meth c d H locs cells slots Q ls hAd Cx hsc hP hS hl k
    obtain ⟨hx, hb, hr, hlk, hml, hown, hts, hK, hKa, hX, hbl, hfr, hlo⟩ := Cx
    exact lv_ixor hx hb hd (k _ _ _ hP hS hl)
  | ishl =>
    obtain rfl : 1 = len := hlen
    obtain ⟨x, y, r, rfl, h1⟩ := jj_ii_inv hs
    cases h1
    refine ⟨rfl, ?_⟩
    intro l D ad cA b sc p e R s m args below meth c d H locs cells slots Q ls hAd Cx hsc hP hS hl k
    obtain ⟨hx, hb, hr, hlk, hml, hown, hts, hK, hKa, hX, hbl, hfr, hlo⟩ := Cx
    exact lv_ishl hx hb hd (k _ _ _ hP hS hl)
  | ishr =>
    obtain rfl : 1 = len := hlen
    obtain ⟨x, y, r, rfl, h1⟩ := jj_ii_inv hs
    cases h1
    refine ⟨rfl, ?_⟩
    intro l D ad cA b sc p e R s m args below meth c d H locs cells slots Q ls hAd Cx hsc hP hS hl k
    obtain ⟨hx, hb, hr, hlk, hml, hown, hts, hK, hKa, hX, hbl, hfr, hlo⟩ := Cx
    exact lv_ishr hx hb hd (k _ _ _ hP hS hl)
  | iushr =>
    obtain rfl : 1 = len := hlen
    obtain ⟨x, y, r, rfl, h1⟩ := jj_ii_inv hs
    cases h1
    refine ⟨rfl, ?_⟩
    intro l D ad cA b sc p e R s m args below meth c d H locs cells slots Q ls hAd Cx hsc hP hS hl k
    obtain ⟨hx, hb, hr, hlk, hml, hown, hts, hK, hKa, hX, hbl, hfr, hlo⟩ := Cx
    exact lv_iushr hx hb hd rfl (k _ _ _ hP hS hl)
  | ladd =>
    obtain rfl : 1 = len := hlen
    obtain ⟨x, y, r, rfl, h1⟩ := jj_ll_inv hs
    cases h1
    refine ⟨rfl, ?_⟩
    intro l D ad cA b sc p e R s m args below meth c d H locs cells slots Q ls hAd Cx hsc hP hS hl k
    obtain ⟨hx, hb, hr, hlk, hml, hown, hts, hK, hKa, hX, hbl, hfr, hlo⟩ := Cx
    exact lv_ladd hx hb hd (k _ _ _ hP hS hl)
  | lsub =>
    obtain rfl : 1 = len := hlen
    obtain ⟨x, y, r, rfl, h1⟩ := jj_ll_inv hs
    cases h1
    refine ⟨rfl, ?_⟩
    intro l D ad cA b sc p e R s m args below meth c d H locs cells slots Q ls hAd Cx hsc hP hS hl k
    obtain ⟨hx, hb, hr, hlk, hml, hown, hts, hK, hKa, hX, hbl, hfr, hlo⟩ := Cx
    exact lv_lsub hx hb hd (k _ _ _ hP hS hl)
  | lmul =>
    obtain rfl : 1 = len := hlen
    obtain ⟨x, y, r, rfl, h1⟩ := jj_ll_inv hs
    cases h1
    refine ⟨rfl, ?_⟩
    intro l D ad cA b sc p e R s m args below meth c d H locs cells slots Q ls hAd Cx hsc hP hS hl k
    obtain ⟨hx, hb, hr, hlk, hml, hown, hts, hK, hKa, hX, hbl, hfr, hlo⟩ := Cx
    exact lv_lmul hx hb hd (k _ _ _ hP hS hl)
  | idiv =>
    obtain rfl : 1 = len := hlen
    obtain ⟨x, y, r, rfl, h1⟩ := jj_ii_inv hs
    by_cases hi : y = 0
    · rw [if_pos hi] at h1; cases h1
    rw [if_neg hi] at h1
    cases h1
    refine ⟨rfl, ?_⟩
    intro l D ad cA b sc p e R s m args below meth c d H locs cells slots Q ls hAd Cx hsc hP hS hl k
    obtain ⟨hx, hb, hr, hlk, hml, hown, hts, hK, hKa, hX, hbl, hfr, hlo⟩ := Cx
    exact lv_idiv hx hb hd hi (k _ _ _ hP hS hl)
  | irem =>
    obtain rfl : 1 = len := hlen
    obtain ⟨x, y, r, rfl, h1⟩ := jj_ii_inv hs
    by_cases hi : y = 0
    · rw [if_pos hi] at h1; cases h1
    rw [if_neg hi] at h1
    cases h1
    refine ⟨rfl, ?_⟩
    intro l D ad cA b sc p e R s m args below meth c d H locs cells slots Q ls hAd Cx hsc hP hS hl k
    obtain ⟨hx, hb, hr, hlk, hml, hown, hts, hK, hKa, hX, hbl, hfr, hlo⟩ := Cx
    exact lv_irem hx hb hd hi (k _ _ _ hP hS hl)
  | ldiv =>
    obtain rfl : 1 = len := hlen
    obtain ⟨x, y, r, rfl, h1⟩ := jj_ll_inv hs
    by_cases hi : y = 0
    · rw [if_pos hi] at h1; cases h1
    rw [if_neg hi] at h1
    cases h1
    refine ⟨rfl, ?_⟩
    intro l D ad cA b sc p e R s m args below meth c d H locs cells slots Q ls hAd Cx hsc hP hS hl k
    obtain ⟨hx, hb, hr, hlk, hml, hown, hts, hK, hKa, hX, hbl, hfr, hlo⟩ := Cx
    exact lv_ldiv hx hb hd hi (k _ _ _ hP hS hl)
  | lrem =>
    obtain rfl : 1 = len := hlen
    obtain ⟨x, y, r, rfl, h1⟩ := jj_ll_inv hs
    by_cases hi : y = 0
    · rw [if_pos hi] at h1; cases h1
    rw [if_neg hi] at h1
    cases h1
    refine ⟨rfl, ?_⟩
    intro l D ad cA b sc p e R s m args below meth c d H locs cells slots Q ls hAd Cx hsc hP hS hl k
    obtain ⟨hx, hb, hr, hlk, hml, hown, hts, hK, hKa, hX, hbl, hfr, hlo⟩ := Cx
    exact lv_lrem hx hb hd hi (k _ _ _ hP hS hl)
  | ineg =>
    obtain rfl : 1 = len := hlen
    obtain ⟨x, r, rfl, h1⟩ := jj_i_inv hs
    cases h1
    refine ⟨rfl, ?_⟩
    intro l D ad cA b sc p e R s m args below meth c d H locs cells slots Q ls hAd Cx hsc hP hS hl k
    obtain ⟨hx, hb, hr, hlk, hml, hown, hts, hK, hKa, hX, hbl, hfr, hlo⟩ := Cx
    exact lv_ineg hx hb hd (k _ _ _ hP hS hl)
  | lneg =>
    obtain rfl : 1 = len := hlen
    obtain ⟨x, r, rfl, h1⟩ := jj_l_inv hs
    cases h1
    refine ⟨rfl, ?_⟩
    intro l D ad cA b sc p e R s m args below meth c d H locs cells slots Q ls hAd Cx hsc hP hS hl k
    obtain ⟨hx, hb, hr, hlk, hml, hown, hts, hK, hKa, hX, hbl, hfr, hlo⟩ := Cx
    exact lv_lneg hx hb hd (k _ _ _ hP hS hl)
  | lcmp =>
    obtain rfl : 1 = len := hlen
    obtain ⟨x, y, r, rfl, h1⟩ := jj_ll_inv hs
    cases h1
    refine ⟨rfl, ?_⟩
    intro l D ad cA b sc p e R s m args below meth c d H locs cells slots Q ls hAd Cx hsc hP hS hl k
    obtain ⟨hx, hb, hr, hlk, hml, hown, hts, hK, hKa, hX, hbl, hfr, hlo⟩ := Cx
    exact W.lcmp hx hb hd (k _ _ _ hP hS hl)
  | i2l =>
    obtain rfl : 1 = len := hlen
    obtain ⟨x, r, rfl, h1⟩ := jj_i_inv hs
    cases h1
    refine ⟨rfl, ?_⟩
    intro l D ad cA b sc p e R s m args below meth c d H locs cells slots Q ls hAd Cx hsc hP hS hl k
    obtain ⟨hx, hb, hr, hlk, hml, hown, hts, hK, hKa, hX, hbl, hfr, hlo⟩ := Cx
    exact lv_i2l hx hb hd rfl (k _ _ _ hP hS hl)
  | l2i =>
    obtain rfl : 1 = len := hlen
    obtain ⟨x, r, rfl, h1⟩ := jj_l_inv hs
    cases h1
    refine ⟨rfl, ?_⟩
    intro l D ad cA b sc p e R s m args below meth c d H locs cells slots Q ls hAd Cx hsc hP hS hl k
    obtain ⟨hx, hb, hr, hlk, hml, hown, hts, hK, hKa, hX, hbl, hfr, hlo⟩ := Cx
    exact lv_l2i hx hb hd rfl (k _ _ _ hP hS hl)
  | goto off =>
    obtain rfl : 3 = len := hlen
    obtain ⟨t, hg, rfl⟩ := jj_omap hs
    refine ⟨rfl, ?_⟩
    intro l D ad cA b sc p e R s m args below meth c d H locs cells slots Q ls hAd Cx hsc hP hS hl k
    obtain ⟨hx, hb, hr, hlk, hml, hown, hts, hK, hKa, hX, hbl, hfr, hlo⟩ := Cx
    exact lv_goto hx hb hd (jj_jmp_at hg) (k _ _ _ hP hS hl)
  | ifCond cd off =>
    obtain rfl : 3 = len := hlen
    obtain ⟨x, r, rfl, h1⟩ := jj_i_inv hs
    obtain ⟨t, hg, rfl⟩ := jj_omap h1
    refine ⟨rfl, ?_⟩
    intro l D ad cA b sc p e R s m args below meth c d H locs cells slots Q ls hAd Cx hsc hP hS hl k
    obtain ⟨hx, hb, hr, hlk, hml, hown, hts, hK, hKa, hX, hbl, hfr, hlo⟩ := Cx
    cases cd
    · refine lv_if_eq hx hb hd (jj_jmp_at hg) (fun z => ?_) (fun z => ?_)
      · have e1 : (if jj_c1 .eq x = true then t else pc + 3) = t := if_pos (by simp [jj_c1, z])
        have k1 := k _ _ _ hP hS hl
        simp only [e1] at k1
        exact k1
      · have e1 : (if jj_c1 .eq x = true then t else pc + 3) = pc + 3 := if_neg (by simp [jj_c1, z])
        have k1 := k _ _ _ hP hS hl
        simp only [e1] at k1
        exact k1
    · refine lv_if_ne hx hb hd (jj_jmp_at hg) (fun z => ?_) (fun z => ?_)
      · have e1 : (if jj_c1 .ne x = true then t else pc + 3) = t := if_pos (by simp [jj_c1, z])
        have k1 := k _ _ _ hP hS hl
        simp only [e1] at k1
        exact k1
      · have e1 : (if jj_c1 .ne x = true then t else pc + 3) = pc + 3 := if_neg (by simp [jj_c1, z])
        have k1 := k _ _ _ hP hS hl
        simp only [e1] at k1
        exact k1
    · refine lv_if_lt hx hb hd (jj_jmp_at hg) (fun z => ?_) (fun z => ?_)
      · have e1 : (if jj_c1 .lt x = true then t else pc + 3) = t := if_pos (by simp [jj_c1, z])
        have k1 := k _ _ _ hP hS hl
        simp only [e1] at k1
        exact k1
      · have e1 : (if jj_c1 .lt x = true then t else pc + 3) = pc + 3 := if_neg (by simp [jj_c1, z])
        have k1 := k _ _ _ hP hS hl
        simp only [e1] at k1
        exact k1
    · refine lv_if_ge hx hb hd (jj_jmp_at hg) (fun z => ?_) (fun z => ?_)
      · have e1 : (if jj_c1 .ge x = true then t else pc + 3) = t := if_pos (by simp [jj_c1, z])
        have k1 := k _ _ _ hP hS hl
        simp only [e1] at k1
        exact k1
      · have e1 : (if jj_c1 .ge x = true then t else pc + 3) = pc + 3 := if_neg (by simp [jj_c1, z])
        have k1 := k _ _ _ hP hS hl
        simp only [e1] at k1
        exact k1
    · refine lv_if_gt hx hb hd (jj_jmp_at hg) (fun z => ?_) (fun z => ?_)
      · have e1 : (if jj_c1 .gt x = true then t else pc + 3) = t := if_pos (by simp [jj_c1, z])
        have k1 := k _ _ _ hP hS hl
        simp only [e1] at k1
        exact k1
      · have e1 : (if jj_c1 .gt x = true then t else pc + 3) = pc + 3 := if_neg (by simp [jj_c1, z])
        have k1 := k _ _ _ hP hS hl
        simp only [e1] at k1
        exact k1
    · refine lv_if_le hx hb hd (jj_jmp_at hg) (fun z => ?_) (fun z => ?_)
      · have e1 : (if jj_c1 .le x = true then t else pc + 3) = t := if_pos (by simp [jj_c1, z])
        have k1 := k _ _ _ hP hS hl
        simp only [e1] at k1
        exact k1
      · have e1 : (if jj_c1 .le x = true then t else pc + 3) = pc + 3 := if_neg (by simp [jj_c1, z])
        have k1 := k _ _ _ hP hS hl
        simp only [e1] at k1
        exact k1
  | if_icmp cd off =>
    obtain rfl : 3 = len := hlen
    obtain ⟨x, y, r, rfl, h1⟩ := jj_ii_inv hs
    obtain ⟨t, hg, rfl⟩ := jj_omap h1
    refine ⟨rfl, ?_⟩
    intro l D ad cA b sc p e R s m args below meth c d H locs cells slots Q ls hAd Cx hsc hP hS hl k
    obtain ⟨hx, hb, hr, hlk, hml, hown, hts, hK, hKa, hX, hbl, hfr, hlo⟩ := Cx
    cases cd
    · refine lv_icmp_eq hx hb hd (jj_jmp_at hg) (fun z => ?_) (fun z => ?_)
      · have e1 : (if jj_c2 .eq x y = true then t else pc + 3) = t := if_pos (by simp [jj_c2, z])
        have k1 := k _ _ _ hP hS hl
        simp only [e1] at k1
        exact k1
      · have e1 : (if jj_c2 .eq x y = true then t else pc + 3) = pc + 3 := if_neg (by simp [jj_c2, z])
        have k1 := k _ _ _ hP hS hl
        simp only [e1] at k1
        exact k1
    · refine lv_icmp_ne hx hb hd (jj_jmp_at hg) (fun z => ?_) (fun z => ?_)
      · have e1 : (if jj_c2 .ne x y = true then t else pc + 3) = t := if_pos (by simp [jj_c2, z])
        have k1 := k _ _ _ hP hS hl
        simp only [e1] at k1
        exact k1
      · have e1 : (if jj_c2 .ne x y = true then t else pc + 3) = pc + 3 := if_neg (by simp [jj_c2, z])
        have k1 := k _ _ _ hP hS hl
        simp only [e1] at k1
        exact k1
    · refine lv_icmp_lt hx hb hd (jj_jmp_at hg) (fun z => ?_) (fun z => ?_)
      · have e1 : (if jj_c2 .lt x y = true then t else pc + 3) = t := if_pos (by simp [jj_c2, z])
        have k1 := k _ _ _ hP hS hl
        simp only [e1] at k1
        exact k1
      · have e1 : (if jj_c2 .lt x y = true then t else pc + 3) = pc + 3 := if_neg (by simp [jj_c2, z])
        have k1 := k _ _ _ hP hS hl
        simp only [e1] at k1
        exact k1
    · refine lv_icmp_ge hx hb hd (jj_jmp_at hg) (fun z => ?_) (fun z => ?_)
      · have e1 : (if jj_c2 .ge x y = true then t else pc + 3) = t := if_pos (by simp [jj_c2, z])
        have k1 := k _ _ _ hP hS hl
        simp only [e1] at k1
        exact k1
      · have e1 : (if jj_c2 .ge x y = true then t else pc + 3) = pc + 3 := if_neg (by simp [jj_c2, z])
        have k1 := k _ _ _ hP hS hl
        simp only [e1] at k1
        exact k1
    · refine lv_icmp_gt hx hb hd (jj_jmp_at hg) (fun z => ?_) (fun z => ?_)
      · have e1 : (if jj_c2 .gt x y = true then t else pc + 3) = t := if_pos (by simp [jj_c2, z])
        have k1 := k _ _ _ hP hS hl
        simp only [e1] at k1
        exact k1
      · have e1 : (if jj_c2 .gt x y = true then t else pc + 3) = pc + 3 := if_neg (by simp [jj_c2, z])
        have k1 := k _ _ _ hP hS hl
        simp only [e1] at k1
        exact k1
    · refine lv_icmp_le hx hb hd (jj_jmp_at hg) (fun z => ?_) (fun z => ?_)
      · have e1 : (if jj_c2 .le x y = true then t else pc + 3) = t := if_pos (by simp [jj_c2, z])
        have k1 := k _ _ _ hP hS hl
        simp only [e1] at k1
        exact k1
      · have e1 : (if jj_c2 .le x y = true then t else pc + 3) = pc + 3 := if_neg (by simp [jj_c2, z])
        have k1 := k _ _ _ hP hS hl
        simp only [e1] at k1
        exact k1
  | tableswitch dflt lo hi offs =>
    obtain ⟨x, r, rfl, h1⟩ := jj_i_inv hs
    obtain ⟨off, ho, h2⟩ := jj_bmap (γ := Nat) h1
    obtain ⟨t, hg, rfl⟩ := jj_omap h2
    refine ⟨rfl, ?_⟩
    intro l D ad cA b sc p e R s m args below meth c d H locs cells slots Q ls hAd Cx hsc hP hS hl k
    obtain ⟨hx, hb, hr, hlk, hml, hown, hts, hK, hKa, hX, hbl, hfr, hlo⟩ := Cx
    unfold jj_tsw at ho
    by_cases hz : x.toInt < lo ∨ hi < x.toInt
    · rw [if_pos hz] at ho
      cases ho
      exact lv_tableOut hx hb hd hz (jj_jmp_at hg) (k _ _ _ hP hS hl)
    · rw [if_neg hz] at ho
      exact lv_tableIn hx hb hd (fun z => hz (Or.inl z)) (fun z => hz (Or.inr z)) ho (jj_jmp_at hg) (k _ _ _ hP hS hl)
  | getfield q =>
    obtain rfl : 3 = len := hlen
    obtain ⟨a, r, rfl, h1⟩ := jj_r_inv hs
    obtain ⟨⟨ci, kf⟩, hf, h2⟩ := jj_bmap (γ := Nat) h1
    by_cases hi : jj_sh[a]? = some (.inl ci) ∧ kf < jj_nf ci
    rotate_left
    · rw [if_neg hi] at h2; cases h2
    rw [if_pos hi] at h2
    cases h2
    refine ⟨rfl, ?_⟩
    intro l D ad cA b sc p e R s m args below meth c d H locs cells slots Q ls hAd Cx hsc hP hS hl k
    obtain ⟨hx, hb, hr, hlk, hml, hown, hts, hK, hKa, hX, hbl, hfr, hlo⟩ := Cx
    obtain ⟨ha, hc1, hc2, hc3, hc4, hc5⟩ := jj_clsL hi.1
    exact va_get hx hb hts hc2 hown hK hP a (by rw [jj_w_get ha, jj_ce_ob hi.1]) hc1 kf hi.2 (hts _ (jj_fl_ok _ (q, ci, kf) (jj_look hf))) (fun _ z => z) (jj_fs_get hi.2) hd (k _ _ _ hP hS hl)
  | putfield q =>
    obtain rfl : 3 = len := hlen
    obtain ⟨⟨ci, kf⟩, hf, h2⟩ := jj_bmap (γ := Nat) hs
    dsimp only at h2
    split at h2
    next hty =>
      obtain ⟨a, x, r, rfl, h3⟩ := jj_ri_inv h2
      by_cases hi : jj_sh[a]? = some (.inl ci) ∧ kf < jj_nf ci
      rotate_left
      · rw [if_neg hi] at h3; cases h3
      rw [if_pos hi] at h3
      cases h3
      refine ⟨rfl, ?_⟩
      intro l D ad cA b sc p e R s m args below meth c d H locs cells slots Q ls hAd Cx hsc hP hS hl k
      obtain ⟨hx, hb, hr, hlk, hml, hown, hts, hK, hKa, hX, hbl, hfr, hlo⟩ := Cx
      obtain ⟨ha, hc1, hc2, hc3, hc4, hc5⟩ := jj_clsL hi.1
      have hk := hi.2
      refine va_put (ty := .int) (v := .int x) hx hb hts hc2 (jj_fty ci) hc3 hc4 hown hK hP (jj_Dd hAd cA h) hS a (by rw [jj_w_get ha, jj_ce_ob hi.1]) hc1 kf hk (hts _ (jj_fl_ok _ (q, ci, kf) (jj_look hf))) (fun _ z => z) (hc5 kf hk (Or.inl hty)) (by rw [hc3 kf hk, hty]) rfl rfl (by simpa using hk) hd (fun H1 locs1 hP1 _ hS1 => k _ _ _ ?_ hS1 hl)
      rw [jj_w_set (h' := jj_iu h a kf x) (by rw [jj_ce_ob hi.1, jj_fs_set hk (h' := jj_iu h a kf x) (by rw [jj_gf_int hty, jj_iu_at, jj_upd_at]; rfl) (fun j hj => jj_gf_iu hj)]) jj_iu_o] at hP1
      exact hP1
    next hty =>
      obtain ⟨a, x, r, rfl, h3⟩ := jj_ri_inv h2
      by_cases hi : jj_sh[a]? = some (.inl ci) ∧ kf < jj_nf ci ∧ jj_b01 x = true
      rotate_left
      · rw [if_neg hi] at h3; cases h3
      rw [if_pos hi] at h3
      cases h3
      refine ⟨rfl, ?_⟩
      intro l D ad cA b sc p e R s m args below meth c d H locs cells slots Q ls hAd Cx hsc hP hS hl k
      obtain ⟨hx, hb, hr, hlk, hml, hown, hts, hK, hKa, hX, hbl, hfr, hlo⟩ := Cx
      obtain ⟨ha, hc1, hc2, hc3, hc4, hc5⟩ := jj_clsL hi.1
      have hk := hi.2.1
      refine va_put (ty := .boolean) (v := .int x) hx hb hts hc2 (jj_fty ci) hc3 hc4 hown hK hP (jj_Dd hAd cA h) hS a (by rw [jj_w_get ha, jj_ce_ob hi.1]) hc1 kf hk (hts _ (jj_fl_ok _ (q, ci, kf) (jj_look hf))) (fun _ z => z) (hc5 kf hk (Or.inr (Or.inl hty))) (by rw [hc3 kf hk, hty]) (by rcases jj_b01_or hi.2.2 with rfl | rfl <;> rfl) (by rcases jj_b01_or hi.2.2 with rfl | rfl <;> rfl) (by simpa using hk) hd (fun H1 locs1 hP1 _ hS1 => k _ _ _ ?_ hS1 hl)
      rw [jj_w_set (h' := jj_iu h a kf x) (by rw [jj_ce_ob hi.1, jj_fs_set hk (h' := jj_iu h a kf x) (by rw [jj_gf_bool hty, jj_iu_at, jj_upd_at]; rfl) (fun j hj => jj_gf_iu hj)]) jj_iu_o] at hP1
      exact hP1
    next hty =>
      obtain ⟨a, x, r, rfl, h3⟩ := jj_rl_inv h2
      by_cases hi : jj_sh[a]? = some (.inl ci) ∧ kf < jj_nf ci
      rotate_left
      · rw [if_neg hi] at h3; cases h3
      rw [if_pos hi] at h3
      cases h3
      refine ⟨rfl, ?_⟩
      intro l D ad cA b sc p e R s m args below meth c d H locs cells slots Q ls hAd Cx hsc hP hS hl k
      obtain ⟨hx, hb, hr, hlk, hml, hown, hts, hK, hKa, hX, hbl, hfr, hlo⟩ := Cx
      obtain ⟨ha, hc1, hc2, hc3, hc4, hc5⟩ := jj_clsL hi.1
      have hk := hi.2
      refine va_put (ty := .long) (v := .long x) hx hb hts hc2 (jj_fty ci) hc3 hc4 hown hK hP (jj_Dd hAd cA h) hS a (by rw [jj_w_get ha, jj_ce_ob hi.1]) hc1 kf hk (hts _ (jj_fl_ok _ (q, ci, kf) (jj_look hf))) (fun _ z => z) (hc5 kf hk (Or.inr (Or.inr hty))) (by rw [hc3 kf hk, hty]) rfl rfl (by simpa using hk) hd (fun H1 locs1 hP1 _ hS1 => k _ _ _ ?_ hS1 hl)
      rw [jj_w_set (h' := jj_lu h a kf x) (by rw [jj_ce_ob hi.1, jj_fs_set hk (h' := jj_lu h a kf x) (by rw [jj_gf_long hty, jj_lu_at, jj_updL_at]; rfl) (fun j hj => jj_gf_lu hj)]) jj_lu_o] at hP1
      exact hP1
    next => cases h2
  | iaload =>
    obtain rfl : 1 = len := hlen
    obtain ⟨a, i, r, rfl, h1⟩ := jj_ri_inv hs
    by_cases hz : a = jj_sc
    · rw [if_pos hz] at h1
      by_cases hi : jj_inb i h.2.2.1 = true
      rotate_left
      · rw [if_neg hi] at h1; cases h1
      rw [if_pos hi] at h1
      cases h1
      refine ⟨rfl, ?_⟩
      intro l D ad cA b sc p e R s m args below meth c d H locs cells slots Q ls hAd Cx hsc hP hS hl k
      obtain ⟨hx, hb, hr, hlk, hml, hown, hts, hK, hKa, hX, hbl, hfr, hlo⟩ := Cx
      subst hz
      subst hsc
      have e1 : jj_tr ad (.ref jj_sc) = .ref b := by show Value.ref (ad jj_sc) = _; rw [hAd.2.2]
      show W p l e R s m args below meth c H locs cells slots Q (F0 m pc ls (.int i :: jj_tr ad (.ref jj_sc) :: r.map (jj_tr ad)))
      rw [e1]
      exact va_sld hx hb hX hbl (jj_nb hAd hbl) hS (jj_inb_in hi) hd (k _ _ _ hP hS hl)
    rw [if_neg hz] at h1
    split at h1
    · next n hn =>
      by_cases hi : jj_inb i n = true
      rotate_left
      · rw [if_neg hi] at h1; cases h1
      rw [if_pos hi] at h1
      cases h1
      refine ⟨rfl, ?_⟩
      intro l D ad cA b sc p e R s m args below meth c d H locs cells slots Q ls hAd Cx hsc hP hS hl k
      obtain ⟨hx, hb, hr, hlk, hml, hown, hts, hK, hKa, hX, hbl, hfr, hlo⟩ := Cx
      exact va_iald hx hb (hKa _ _ _ hn) hP a 0 (by rw [jj_w_get (jj_sh_lt hn), jj_ce_i hn]) rfl (jj_inb_in hi) hd (k _ _ _ hP hS hl)
    · cases h1
  | baload =>
    obtain rfl : 1 = len := hlen
    obtain ⟨a, i, r, rfl, h1⟩ := jj_ri_inv hs
    split at h1
    · next n hn =>
      by_cases hi : jj_inb i n = true
      rotate_left
      · rw [if_neg hi] at h1; cases h1
      rw [if_pos hi] at h1
      cases h1
      refine ⟨rfl, ?_⟩
      intro l D ad cA b sc p e R s m args below meth c d H locs cells slots Q ls hAd Cx hsc hP hS hl k
      obtain ⟨hx, hb, hr, hlk, hml, hown, hts, hK, hKa, hX, hbl, hfr, hlo⟩ := Cx
      exact va_zald hx hb (hKa _ _ _ hn) hP a 0 (by rw [jj_w_get (jj_sh_lt hn), jj_ce_z hn]) rfl (jj_inb_in hi) hd (k _ _ _ hP hS hl)
    · cases h1
  | laload =>
    obtain rfl : 1 = len := hlen
    obtain ⟨a, i, r, rfl, h1⟩ := jj_ri_inv hs
    split at h1
    · next n hn =>
      by_cases hi : jj_inb i n = true
      rotate_left
      · rw [if_neg hi] at h1; cases h1
      rw [if_pos hi] at h1
      cases h1
      refine ⟨rfl, ?_⟩
      intro l D ad cA b sc p e R s m args below meth c d H locs cells slots Q ls hAd Cx hsc hP hS hl k
      obtain ⟨hx, hb, hr, hlk, hml, hown, hts, hK, hKa, hX, hbl, hfr, hlo⟩ := Cx
      exact va_lald hx hb (hKa _ _ _ hn) hP a 0 (by rw [jj_w_get (jj_sh_lt hn), jj_ce_l hn]) rfl (jj_inb_in hi) hd (k _ _ _ hP hS hl)
    · cases h1
  | iastore =>
    obtain rfl : 1 = len := hlen
    obtain ⟨a, i, x, r, rfl, h1⟩ := jj_rii_inv hs
    split at h1
    · next n hn =>
      by_cases hi : jj_inb i n = true
      rotate_left
      · rw [if_neg hi] at h1; cases h1
      rw [if_pos hi] at h1
      cases h1
      refine ⟨rfl, ?_⟩
      intro l D ad cA b sc p e R s m args below meth c d H locs cells slots Q ls hAd Cx hsc hP hS hl k
      obtain ⟨hx, hb, hr, hlk, hml, hown, hts, hK, hKa, hX, hbl, hfr, hlo⟩ := Cx
      have hin := hi
      refine va_iast hx hb (hKa _ _ _ hn) hP (jj_Dd hAd cA h) hS a 0 (by rw [jj_w_get (jj_sh_lt hn), jj_ce_i hn]) rfl (jj_inb_in hin) hd (fun H1 locs1 hP1 _ hS1 => k _ _ _ ?_ hS1 hl)
      rw [jj_w_set (h' := jj_iu h a i.toNatClampNeg x) (by rw [jj_ce_i hn, jj_iu_at]) jj_iu_o] at hP1
      exact hP1
    · cases h1
  | bastore =>
    obtain rfl : 1 = len := hlen
    obtain ⟨a, i, x, r, rfl, h1⟩ := jj_rii_inv hs
    split at h1
    · next n hn =>
      by_cases hi : jj_inb i n = true ∧ jj_b01 x = true
      rotate_left
      · rw [if_neg hi] at h1; cases h1
      rw [if_pos hi] at h1
      cases h1
      refine ⟨rfl, ?_⟩
      intro l D ad cA b sc p e R s m args below meth c d H locs cells slots Q ls hAd Cx hsc hP hS hl k
      obtain ⟨hx, hb, hr, hlk, hml, hown, hts, hK, hKa, hX, hbl, hfr, hlo⟩ := Cx
      have hin := hi.1
      refine va_zast hx hb (hKa _ _ _ hn) hP (jj_Dd hAd cA h) hS a 0 (by rw [jj_w_get (jj_sh_lt hn), jj_ce_z hn]) rfl (jj_inb_in hin) hd (fun H1 locs1 hP1 _ hS1 => k _ _ _ ?_ hS1 hl)
      rw [show vp_nar .boolean x = x by rcases jj_b01_or hi.2 with rfl | rfl <;> decide] at hP1
      rw [jj_w_set (h' := jj_iu h a i.toNatClampNeg x) (by rw [jj_ce_z hn, jj_iu_at]) jj_iu_o] at hP1
      exact hP1
    · cases h1
  | lastore =>
    obtain rfl : 1 = len := hlen
    obtain ⟨a, i, x, r, rfl, h1⟩ := jj_ril_inv hs
    split at h1
    · next n hn =>
      by_cases hi : jj_inb i n = true
      rotate_left
      · rw [if_neg hi] at h1; cases h1
      rw [if_pos hi] at h1
      cases h1
      refine ⟨rfl, ?_⟩
      intro l D ad cA b sc p e R s m args below meth c d H locs cells slots Q ls hAd Cx hsc hP hS hl k
      obtain ⟨hx, hb, hr, hlk, hml, hown, hts, hK, hKa, hX, hbl, hfr, hlo⟩ := Cx
      have hin := hi
      refine va_last hx hb (hKa _ _ _ hn) hP (jj_Dd hAd cA h) hS a 0 (by rw [jj_w_get (jj_sh_lt hn), jj_ce_l hn]) rfl (jj_inb_in hin) hd (fun H1 locs1 hP1 _ hS1 => k _ _ _ ?_ hS1 hl)
      rw [jj_w_set (h' := jj_lu h a i.toNatClampNeg x) (by rw [jj_ce_l hn, jj_lu_at]) jj_lu_o] at hP1
      exact hP1
    · cases h1
  | arraylength =>
    obtain rfl : 1 = len := hlen
    obtain ⟨a, r, rfl, h1⟩ := jj_r_inv hs
    by_cases hz : a = jj_sc
    · rw [if_pos hz] at h1
      cases h1
      refine ⟨rfl, ?_⟩
      intro l D ad cA b sc p e R s m args below meth c d H locs cells slots Q ls hAd Cx hsc hP hS hl k
      obtain ⟨hx, hb, hr, hlk, hml, hown, hts, hK, hKa, hX, hbl, hfr, hlo⟩ := Cx
      subst hz
      subst hsc
      have e1 : jj_tr ad (.ref jj_sc) = .ref b := by show Value.ref (ad jj_sc) = _; rw [hAd.2.2]
      show W p l e R s m args below meth c H locs cells slots Q (F0 m pc ls (jj_tr ad (.ref jj_sc) :: r.map (jj_tr ad)))
      rw [e1]
      exact va_slen hx hb hX hbl (jj_nb hAd hbl) hS hd (k _ _ _ hP hS hl)
    rw [if_neg hz] at h1
    split at h1
    · next t n hn =>
      cases h1
      refine ⟨rfl, ?_⟩
      intro l D ad cA b sc p e R s m args below meth c d H locs cells slots Q ls hAd Cx hsc hP hS hl k
      obtain ⟨hx, hb, hr, hlk, hml, hown, hts, hK, hKa, hX, hbl, hfr, hlo⟩ := Cx
      obtain ⟨y, hy⟩ : ∃ y : vp_A, jj_ce ad cA h a = .inl (cA a, y) ∧ y.1 = n := by
        unfold jj_ce
        rw [hn]
        cases t <;> exact ⟨_, rfl, rfl⟩
      exact va_alen hx hb (hKa _ _ _ hn) hP a 0 (by rw [jj_w_get (jj_sh_lt hn), hy.1]) rfl (by rw [hy.2]) hd (k _ _ _ hP hS hl)
    · cases h1
  | _ => cases hs

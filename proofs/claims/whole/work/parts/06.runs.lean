/-! runs: the machine does what our function says, calls and all -/
def jj_ws (M : jj_M) : List Cond := Cond.code M.1.1 M.1.2 M.2.1 M.2.2.1 :: jj_wl
def jj_rm (d : Nat) : Room := { frames := d, cells := 0, slots := 0, locals := 60 * d }
def jj_Pc (D : va_G) (ad : Nat → Nat) (cA : Nat → ClassId) (b : Nat) (sc : Nat × (Nat → Int32)) (vs : List Value) (h : jj_Hp) (sz : Nat) : Array Value → State → Prop :=
  va_Pc (vs.map (jj_tr ad)) (fun U => U.heap.size = sz ∧ va_P D vwCl (jj_w ad cA h) U.heap ∧ va_K D vwCl [] U ∧ (∀ a t n, jj_sh[a]? = some (.inr (t, n)) → va_K D vwCl [(cA a, t)] U) ∧ va_X b sc.1 sc.2 U U.heap ∧ b < U.heap.size)
def jj_Q (D : va_G) (ad : Nat → Nat) (cA : Nat → ClassId) (rv : Option Value) (h' : jj_Hp) (A : Nat → Prop) : Array Value → State → Outcome → State → Prop := fun _ st oc t =>
  oc = .returned (rv.map (jj_tr ad)) ∧ va_P D vwCl (jj_w ad cA h') t.heap ∧ va_F A st t
/-- where a method ends -/
def jj_end (M : jj_M) (pc : Nat) (rv : Option Value) : Prop := ∃ ins st, decode M.1.2 pc = .ok (ins, 1) ∧ jj_fin M.2.2.1 ins st = some rv
def jj_Snd (l : Launch) (D : va_G) (ad : Nat → Nat) (cA : Nat → ClassId) (b : Nat) (sc : Nat × (Nat → Int32)) (d : Nat) (M : jj_M) (pc : Nat) (lc st : List Value) (h : jj_Hp) (rv : Option Value) (h' : jj_Hp) : Prop :=
  ∀ (p : Program) (e : Env) (R : Room) (s : State) (m : MethodId) (args : Array Value) (below : List Frame) (meth : Method) (c : Code), jj_Cx D cA b sc p R s m args meth c M d →
  ∀ (H : Heap) (locs : List Loc) (cells slots : Nat) (Q : State → Prop) (ls : Array Slot), va_P D vwCl (jj_w ad cA h) H → va_S (jj_A ad s.heap.size) s.heap H locs → jj_L ad ls M.2.1 lc → cells ≤ R.cells → slots ≤ R.slots →
    (∀ (H1 : Heap) (locs1 : List Loc) (pc1 : Nat) (ls1 : Array Slot), va_P D vwCl (jj_w ad cA h') H1 → va_S (jj_A ad s.heap.size) s.heap H1 locs1 → jj_end M pc1 rv → W p l e R s m args below meth c H1 locs1 cells slots Q (F0 m pc1 ls1 (rv.toList.map (jj_tr ad)))) →
    W p l e R s m args below meth c H locs cells slots Q (F0 m pc ls (st.map (jj_tr ad)))
/-- behind a call -/
theorem jj_call {p : Program} {l : Launch} {e : Env} {R : Room} {s : State} {m : MethodId} {args : Array Value} {below : List Frame} {meth : Method} {c : Code} {H : Heap} {locs : List Loc} {cells slots : Nat} {Q : State → Prop} {pc : Nat} {ls : Array Slot} {rest st0 : List Value} {a : Array Value} {A0 A1 : Nat → Prop} {H0 : Heap} {free : Addr → Prop} {D : va_G} {ad : Nat → Nat} {cA : Nat → ClassId} {rv : Option Value} {h' : jj_Hp}
    (hr : va_Run p l e R s m args below meth c H locs cells slots 0 0 (F0 m pc ls st0) rest (jj_Q D ad cA rv h' A1 a) free) (hS : va_S A0 H0 H locs) (hA : ∀ q, q < H.size → A1 q → A0 q) (hf : ∀ q, free q → A0 q)
    (kk : ∀ (H1 : Heap) (locs1 : List Loc), va_P D vwCl (jj_w ad cA h') H1 → va_S A0 H0 H1 locs1 → W p l e R s m args below meth c H1 locs1 cells slots Q (F0 m (pc + 3) ls ((rv.map (jj_tr ad)).toList ++ rest))) : W p l e R s m args below meth c H locs cells slots Q (F0 m pc ls st0) := by
  intro T hT X
  obtain ⟨v, st₀, t, T', L, h0, X', hL, e1, e2, ⟨hv, hp, hz, hk⟩, st⟩ := hr T hT X
  cases hv
  rw [h0] at hz hk
  obtain ⟨t2, a1, b1⟩ := kk T'.heap (locs ++ L) (by rw [e1]; exact hp)
    ⟨Nat.le_trans hS.1 (by rw [e1]; exact hz), fun q h1 h2 => by rw [e1, hk q (Nat.lt_of_lt_of_le h1 hS.1) (fun z => h2 (hA q (Nat.lt_of_lt_of_le h1 hS.1) z))]; exact hS.2.1 q h1 h2, fun q hq => by
      rcases List.mem_append.mp hq with h | h
      · exact hS.2.2 q h
      · exact hf _ (hL q h)⟩ T' rfl X'
  exact ⟨t2, st t2 a1, b1⟩
theorem jj_ofW {l : Launch} {y : MethodName} {ws ws' : List Cond} {rm : Room} {Pc : Array Value → State → Prop} {Qc : Array Value → State → Outcome → State → Prop} {mc ms : Nat} {free : Addr → Prop} {cc : ByteArray} {maxL : Nat} {ret : Option FieldType}
    (hy : plainFor y = true) (hw : ws = Cond.code y cc maxL ret :: ws')
    (body : ∀ p e s m args below meth c s₁, BodyLoose p l y (headSpec ws rm) cc maxL ret e s m args below meth c s₁ → c.maxLocals = maxL → Pc args s →
      W p l e (headSpec ws rm).room s m args below meth c s.heap [] 0 0 (MQ below Qc args s mc ms free) (entryFrame m args maxL)) : Met l y ws rm Pc Qc mc ms free := by
  refine MetFree.of_bodySF (code := cc) (maxLocals := maxL) (ret := ret) hy ?_ ?_
  · intro args s m h hn
    obtain ⟨meth, c, h1, h2, h3, h4, h5, h6, -, -⟩ := Cond.code_spec hn (atoms_spec (ws := ws) h _ (by rw [hw]; exact List.mem_cons_self))
    exact ⟨meth, c, h1, h2, h3, h4, h5, h6⟩
  · intro p e s m args below meth c s₁ B hml hP _
    have hh0 : s₁.heap = s.heap := by rw [B.state]; rfl
    obtain ⟨t, a1, o, b1, b2, b3⟩ := body p e s m args below meth c s₁ B hml hP s₁ hh0 (Stand.of_body B)
    exact ⟨t, o, a1, b1, b2, ⟨b3.1, b3.2⟩⟩
theorem jj_ent_len : ∀ (vs : List Value) (n : Nat), jj_wd vs ≤ n → n < 1000 → (jj_ent vs n).length = n ∧ (∀ ad, (lg_sl (vs.map (jj_tr ad))).length = jj_wd vs)
  | [], n, _, _ => ⟨by simp [jj_ent], fun ad => rfl⟩
  | .long x :: l, n, h, hn => by
    have h : jj_wd l + 2 ≤ n := h
    obtain ⟨h1, h2⟩ := jj_ent_len l (n - 2) (by omega) (by omega)
    refine ⟨by show (jj_ent l (n - 2)).length + 1 + 1 = n; omega, fun ad => ?_⟩
    show (lg_sl (Value.long x :: l.map (jj_tr ad))).length = jj_wd l + 2
    have e : lg_sl (Value.long x :: l.map (jj_tr ad)) = .val (.long x) :: .second :: lg_sl (l.map (jj_tr ad)) := rfl
    rw [e, ← h2 ad]; rfl
  | .int x :: l, n, h, hn => by
    have h : jj_wd l + 1 ≤ n := h
    obtain ⟨h1, h2⟩ := jj_ent_len l (n - 1) (by omega) (by omega)
    refine ⟨by show (jj_ent l (n - 1)).length + 1 = n; omega, fun ad => ?_⟩
    show (lg_sl (Value.int x :: l.map (jj_tr ad))).length = jj_wd l + 1
    have e : lg_sl (Value.int x :: l.map (jj_tr ad)) = .val (.int x) :: lg_sl (l.map (jj_tr ad)) := rfl
    rw [e, ← h2 ad]; rfl
  | .ref x :: l, n, h, hn => by
    have h : jj_wd l + 1 ≤ n := h
    obtain ⟨h1, h2⟩ := jj_ent_len l (n - 1) (by omega) (by omega)
    refine ⟨by show (jj_ent l (n - 1)).length + 1 = n; omega, fun ad => ?_⟩
    show (lg_sl (Value.ref (ad x) :: l.map (jj_tr ad))).length = jj_wd l + 1
    have e : lg_sl (Value.ref (ad x) :: l.map (jj_tr ad)) = .val (.ref (ad x)) :: lg_sl (l.map (jj_tr ad)) := rfl
    rw [e, ← h2 ad]; rfl
  | .float _ :: l, n, h, hn => by have h : 1000 ≤ n := h; omega
  | .double _ :: l, n, h, hn => by have h : 1000 ≤ n := h; omega
  | .null :: l, n, h, hn => by have h : 1000 ≤ n := h; omega
  | .retAddr _ :: l, n, h, hn => by have h : 1000 ≤ n := h; omega
theorem jj_ent_in (ad : Nat → Nat) : ∀ (vs : List Value) (n off : Nat), jj_wd vs ≤ n → n < 1000 → ∀ (i : Nat) (v : Value), (jj_ent vs n)[i]? = some v → v ≠ .null → (off + i, jj_tr ad v) ∈ lv_args off (vs.map (jj_tr ad))
  | [], n, off, _, _, i, v, h, hv => by
    have h : (List.replicate n Value.null)[i]? = some v := h
    rw [List.getElem?_replicate] at h
    split at h
    · cases h; exact absurd rfl hv
    · cases h
  | .long x :: l, n, off, hw, hn, i, v, h, hv => by
    have hw : jj_wd l + 2 ≤ n := hw
    show (off + i, jj_tr ad v) ∈ (off, Value.long x) :: lv_args (off + 2) (l.map (jj_tr ad))
    match i, h with
    | 0, h =>
      have h : some (Value.long x) = some v := h
      cases h
      exact List.mem_cons_self
    | 1, h =>
      have h : some Value.null = some v := h
      cases h
      exact absurd rfl hv
    | i + 2, h =>
      have h : (jj_ent l (n - 2))[i]? = some v := h
      have := jj_ent_in ad l (n - 2) (off + 2) (by omega) (by omega) i v h hv
      rw [show off + (i + 2) = off + 2 + i by omega]
      exact List.mem_cons_of_mem _ this
  | .int x :: l, n, off, hw, hn, i, v, h, hv => by
    have hw : jj_wd l + 1 ≤ n := hw
    show (off + i, jj_tr ad v) ∈ (off, Value.int x) :: lv_args (off + 1) (l.map (jj_tr ad))
    match i, h with
    | 0, h =>
      have h : some (Value.int x) = some v := h
      cases h
      exact List.mem_cons_self
    | i + 1, h =>
      have h : (jj_ent l (n - 1))[i]? = some v := h
      have := jj_ent_in ad l (n - 1) (off + 1) (by omega) (by omega) i v h hv
      rw [show off + (i + 1) = off + 1 + i by omega]
      exact List.mem_cons_of_mem _ this
  | .ref x :: l, n, off, hw, hn, i, v, h, hv => by
    have hw : jj_wd l + 1 ≤ n := hw
    show (off + i, jj_tr ad v) ∈ (off, Value.ref (ad x)) :: lv_args (off + 1) (l.map (jj_tr ad))
    match i, h with
    | 0, h =>
      have h : some (Value.ref x) = some v := h
      cases h
      exact List.mem_cons_self
    | i + 1, h =>
      have h : (jj_ent l (n - 1))[i]? = some v := h
      have := jj_ent_in ad l (n - 1) (off + 1) (by omega) (by omega) i v h hv
      rw [show off + (i + 1) = off + 1 + i by omega]
      exact List.mem_cons_of_mem _ this
  | .float _ :: l, n, off, hw, hn, i, v, h, hv => by have hw : 1000 ≤ n := hw; omega
  | .double _ :: l, n, off, hw, hn, i, v, h, hv => by have hw : 1000 ≤ n := hw; omega
  | .null :: l, n, off, hw, hn, i, v, h, hv => by have hw : 1000 ≤ n := hw; omega
  | .retAddr _ :: l, n, off, hw, hn, i, v, h, hv => by have hw : 1000 ≤ n := hw; omega
theorem jj_fin_st {ret : Option FieldType} {ins : Instr} {st : List Value} {rv : Option Value} (h : jj_fin ret ins st = some rv) : st = rv.toList ∧ ((ins = .ireturn ∧ ∃ x, rv = some (.int x) ∧ jj_rok ret x = true) ∨ (ins = .lreturn ∧ ∃ x, rv = some (.long x) ∧ ret = some .long) ∨ (ins = .areturn ∧ ∃ x, rv = some (.ref x) ∧ jj_aok ret = true) ∨ (ins = .return_ ∧ rv = none ∧ ret = none)) := by
  unfold jj_fin at h
  split at h
  · split at h
    · next x =>
      by_cases hr : jj_rok ret x = true
      · rw [if_pos hr] at h; cases h; exact ⟨rfl, Or.inl ⟨rfl, x, rfl, hr⟩⟩
      · rw [if_neg hr] at h; cases h
    · cases h
  · split at h
    · next x =>
      by_cases hr : ret = some .long
      · rw [if_pos hr] at h; cases h; exact ⟨rfl, Or.inr (Or.inl ⟨rfl, x, rfl, hr⟩)⟩
      · rw [if_neg hr] at h; cases h
    · cases h
  · split at h
    · next x =>
      by_cases hr : jj_aok ret = true
      · rw [if_pos hr] at h; cases h; exact ⟨rfl, Or.inr (Or.inr (Or.inl ⟨rfl, x, rfl, hr⟩))⟩
      · rw [if_neg hr] at h; cases h
    · cases h
  · split at h
    · by_cases hr : ret = none
      · rw [if_pos hr] at h; cases h; exact ⟨rfl, Or.inr (Or.inr (Or.inr ⟨rfl, rfl, hr⟩))⟩
      · rw [if_neg hr] at h; cases h
    · cases h
  · cases h
theorem jj_met {l : Launch} {D : va_G} {ad : Nat → Nat} {cA : Nat → ClassId} {b : Nat} {sc : Nat × (Nat → Int32)} {d : Nat} {M : jj_M} {vs : List Value} {h : jj_Hp} {rv : Option Value} {h' : jj_Hp} (hok : jj_okM M) (hwd : jj_wd vs ≤ M.2.1) (hs : jj_Snd l D ad cA b sc d M 0 (jj_ent vs M.2.1) [] h rv h') (sz : Nat) :
    Met l M.1.1 (jj_ws M) (jj_rm d) (jj_Pc D ad cA b sc vs h sz) (jj_Q D ad cA rv h' (jj_A ad sz)) 0 0 (jj_A ad sz) := by
  obtain ⟨ok1, ok2, ok3, ok4, ok5, ok6, ok7, ok8⟩ := hok
  refine jj_ofW (cc := M.1.2) (maxL := M.2.1) (ret := M.2.2.1) ok1 rfl ?_
  intro p e s m args below meth c s₁ B hml hv
  obtain ⟨rfl, hsz, hP, hK, hKa, hX, hbl⟩ := hv
  have hx := B.exec
  have hb := B.bytes
  have hr := B.returns
  have hts := atoms_spec (ws := jj_ws M) B.pre
  have hown : s.vm.findClass M.1.1.cls = some m.cls := findClass_of_methodNamed B.named
  have hlocks := B.notSynchronized
  subst hsz
  obtain ⟨el, ew⟩ := jj_ent_len vs M.2.1 hwd (by omega)
  have hl := lv_entry (vs.map (jj_tr ad)) (n := M.2.1) (by rw [ew ad]; exact hwd)
  rw [lg_entry_eq]
  generalize (lg_sl (vs.map (jj_tr ad)) ++ List.replicate (M.2.1 - (lg_sl (vs.map (jj_tr ad))).length) Slot.unset).toArray = ls at hl ⊢
  have hL : jj_L ad ls M.2.1 (jj_ent vs M.2.1) := ⟨⟨hl.1, hl.2.1, fun q hq => by cases hq⟩, el, fun i v hi hv => by
    have := jj_ent_in ad vs M.2.1 0 hwd (by omega) i v hi hv
    rw [Nat.zero_add] at this
    exact hl.2.2 _ this⟩
  refine hs p e _ s m _ below meth c ⟨hx, hb, hr, hlocks, hml, by rw [ok3]; exact hown, fun w hw => hts w (List.mem_cons_of_mem _ hw), hK, hKa, hX, hbl, Nat.le_refl d, Nat.le_refl (60 * d)⟩ s.heap [] 0 0 _ ls hP va_S.rf hL (Nat.zero_le _) (Nat.zero_le _) ?_
  intro H1 locs1 pc1 ls1 hP1 hS1 he
  obtain ⟨ins, st, hd, hf⟩ := he
  obtain ⟨e1, hc⟩ := jj_fin_st hf
  rcases hc with ⟨rfl, x, rfl, hrok⟩ | ⟨rfl, x, rfl, hrok⟩ | ⟨rfl, x, rfl, hrok⟩ | ⟨rfl, rfl, hrok⟩
  · obtain ⟨ty, hty, hn⟩ : ∃ ty, M.2.2.1 = some ty ∧ narrow ty (.int x) = .int x := by
      unfold jj_rok at hrok
      split at hrok
      · next q => exact ⟨.int, by assumption, rfl⟩
      · next q => exact ⟨.boolean, by assumption, by rcases jj_b01_or hrok with rfl | rfl <;> rfl⟩
      · cases hrok
    exact W.zret hx hb (hr.trans hty) hn (fun t ht hW => ⟨rfl, by rw [ht]; exact hP1, hS1.F ht⟩) hS1.2.2 hd
  · exact W.lret hx hb (hr.trans hrok) (fun t ht hW => ⟨rfl, by rw [ht]; exact hP1, hS1.F ht⟩) hS1.2.2 hd
  · obtain ⟨ty, hty, hn⟩ : ∃ ty, M.2.2.1 = some ty ∧ ((∃ n, ty = .object n) ∨ ∃ t, ty = .array t) := by
      unfold jj_aok at hrok
      split at hrok
      · next q => exact ⟨_, by assumption, Or.inl ⟨_, rfl⟩⟩
      · next q => exact ⟨_, by assumption, Or.inr ⟨_, rfl⟩⟩
      · cases hrok
    exact W.aret hx hb (hr.trans hty) hn (Or.inr ⟨_, rfl⟩) (fun t ht hW => ⟨rfl, by rw [ht]; exact hP1, hS1.F ht⟩) hS1.2.2 hd
  · exact W.vret hx hb (hr.trans hrok) (fun t ht hW => ⟨rfl, by rw [ht]; exact hP1, hS1.F ht⟩) hS1.2.2 hd
theorem jj_good {M M' : jj_M} (hok : jj_okM M') : GoodIn (jj_ws M) (jj_ws M') := by
  intro w hw
  have hm : w ∈ jj_wl := (List.mem_cons.mp hw).elim (fun q => by rw [q]; exact hok.2.1) id
  exact ⟨List.mem_cons_of_mem _ hm, good_of_word (jj_wl_good w hm)⟩
theorem jj_goodW {M' : jj_M} (hok : jj_okM M') : GoodIn jj_wl (jj_ws M') := by
  intro w hw
  have hm : w ∈ jj_wl := (List.mem_cons.mp hw).elim (fun q => by rw [q]; exact hok.2.1) id
  exact ⟨hm, good_of_word (jj_wl_good w hm)⟩
theorem jj_blind {D : va_G} {ad : Nat → Nat} {cA : Nat → ClassId} {b : Nat} {sc : Nat × (Nat → Int32)} {vs : List Value} {h : jj_Hp} {sz : Nat} : FrameBlind (jj_Pc D ad cA b sc vs h sz) := by
  intro a U g mk q
  obtain ⟨q0, q1, q2, q3, q4, q5, q6⟩ := q
  exact ⟨q0, q1, q2, va_K.moved (u := U) (U := U.calling g mk a) (Vm.Alike.refl U.vm) q3, fun a' t n hn => va_K.moved (u := U) (U := U.calling g mk a) (Vm.Alike.refl U.vm) (q4 a' t n hn), va_X.moved (u := U) (U := U.calling g mk a) (Vm.Alike.refl U.vm) q5, q6⟩
theorem jj_exec_sc : ∀ (n d : Nat) (M : jj_M) (pc : Nat) (lc st : List Value) (h : jj_Hp) (rv : Option Value) (h' : jj_Hp), jj_exec n d M pc lc st h = some (rv, h') → h'.2.2 = h.2.2
  | 0, d, M, pc, lc, st, h, rv, h', hx => by cases hx
  | n + 1, d, M, pc, lc, st, h, rv, h', hx => by
    unfold jj_exec at hx
    split at hx
    · next ins len hd =>
      split at hx
      · next hlen =>
        split at hx
        · cases hx; rfl
        · split at hx
          · next q hq =>
            split at hx
            · cases d with
              | zero => cases hx
              | succ d' =>
                dsimp only at hx
                split at hx
                · next r h1 hc =>
                  exact (jj_exec_sc n _ _ _ _ _ _ _ _ hx).trans (jj_exec_sc n _ _ _ _ _ _ _ _ hc)
                · cases hx
            · cases hx
          · split at hx
            · next P hP =>
              exact (jj_exec_sc n _ _ _ _ _ _ _ _ hx).trans (jj_step hd hlen hP).1
            · cases hx
      · cases hx
    · cases hx

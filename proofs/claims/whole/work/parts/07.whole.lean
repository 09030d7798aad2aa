/-! a call, from our function's -/
theorem jj_callOne {l : Launch} {D : va_G} {ad : Nat → Nat} {cA : Nat → ClassId} {b : Nat} {sc : Nat × (Nat → Int32)} {d : Nat} {M : jj_M} {ins : Instr} {pc : Nat} {st : List Value} {q : jj_M × List Value × List Value} {h : jj_Hp} {r : Option Value} {h1 : jj_Hp}
    (hAd : jj_Ad ad b) (hd : decode M.1.2 pc = .ok (ins, 3)) (hq : jj_cal M.2.2.2.1 ins st = some q) (hc : jj_cok q = true) (hS1 : jj_okM q.1 → jj_Snd l D ad cA b sc d q.1 0 (jj_ent q.2.1 q.1.2.1) [] h r h1)
    {p : Program} {e : Env} {R : Room} {s : State} {m : MethodId} {args : Array Value} {below : List Frame} {meth : Method} {c : Code} (Cx : jj_Cx D cA b sc p R s m args meth c M (d + 1))
    {H : Heap} {locs : List Loc} {cells slots : Nat} {Q : State → Prop} {ls : Array Slot} (hP : va_P D vwCl (jj_w ad cA h) H) (hS : va_S (jj_A ad s.heap.size) s.heap H locs) (hls : ls.size = M.2.1) (hcl : cells ≤ R.cells) (hsl : slots ≤ R.slots)
    (k : ∀ (H1 : Heap) (locs1 : List Loc), va_P D vwCl (jj_w ad cA h1) H1 → va_S (jj_A ad s.heap.size) s.heap H1 locs1 → W p l e R s m args below meth c H1 locs1 cells slots Q (F0 m (pc + 3) ls ((r.map (jj_tr ad)).toList ++ q.2.2.map (jj_tr ad)))) :
    W p l e R s m args below meth c H locs cells slots Q (F0 m pc ls (st.map (jj_tr ad))) := by
  obtain ⟨hx, hb, hr, hlk, hml, hown, hts, hK, hKa, hX, hbl, hfr, hlo⟩ := Cx
  have hX1 : va_X b sc.1 sc.2 s H := hX.kept (hS.2.1 b hbl (jj_nb hAd hbl))
  have hb1 : b < H.size := Nat.lt_of_lt_of_le hbl hS.1
  have hA1 : ∀ z, jj_A ad H.size z → jj_A ad s.heap.size z := fun z hz => hz.elim Or.inl (fun y => Or.inr (Nat.le_trans hS.1 y))
  unfold jj_cok at hc
  simp only [Bool.and_eq_true, decide_eq_true_eq] at hc
  have hcat : (q.2.2.map (jj_tr ad)).map (fun v => v.category) = q.2.2.map (fun v => v.category) := by
    rw [List.map_map]
    exact List.map_congr_left (fun v _ => jj_tr_cat ad v)
  have hroom : ((q.2.2.map (jj_tr ad)).map fun v => v.category).sum ≤ 8 := by rw [hcat]; exact hc.2
  unfold jj_cal at hq
  split at hq
  · next i =>
    obtain ⟨M', hM, h2⟩ := jj_bmap (γ := Nat) hq
    obtain ⟨hok, w1, w2, w3⟩ := jj_mv_ok _ (i, M') (jj_look hM)
    split at h2
    · next a rr hdr =>
      by_cases hi : jj_sh[a]? = some (.inl M'.2.2.2.1) ∧ (st.take M'.2.2.2.2).length = M'.2.2.2.2
      rotate_left
      · rw [if_neg hi] at h2; cases h2
      rw [if_pos hi] at h2
      cases h2
      dsimp only at hc hroom hS1 k
      have hMet := jj_met (vs := .ref a :: (st.take M'.2.2.2.2).reverse) hok hc.1 (hS1 hok) H.size
      obtain ⟨ha, hc1, hc2, hc3, hc4, hc5⟩ := jj_clsL hi.1
      have hst : st = st.take M'.2.2.2.2 ++ .ref a :: rr := by rw [← hdr, List.take_append_drop]
      have hstk : st.map (jj_tr ad) = (((st.take M'.2.2.2.2).reverse).map (jj_tr ad)).reverse ++ .ref (ad a) :: rr.map (jj_tr ad) := by
        rw [← List.map_reverse, List.reverse_reverse]
        exact (congrArg (List.map (jj_tr ad)) hst).trans (List.map_append)
      have ok3 := hok.2.2.1
      refine jj_call (D := D) (ad := ad) (cA := cA) (rv := r) (h' := h1) (va_runV (As := ((st.take M'.2.2.2.2).reverse).map (jj_tr ad)) (b := ad a) (rest := rr.map (jj_tr ad)) (C := M'.1.1.cls) (n := M'.2.2.2.2) (Ts := jj_wl) ⟨hx, hb, hml, hown, hts⟩ hMet
        ⟨callB_of (ws' := jj_wl) M'.2.2.2.2 hts (jj_goodW hok) rfl rfl rfl (hts _ hok.2.2.2.1) (hts _ w1) ⟨hok.2.2.2.2.1, hok.2.2.2.2.2.1, hok.2.2.2.2.2.2.1⟩ ⟨hfr, by have hz : M'.2.1 < 30 := hok.2.2.2.2.2.2.2; show 8 + (M'.2.1 + 11) + 60 * d ≤ R.locals; omega⟩, hts _ w2, hts _ w3⟩
        ⟨jj_blind, ?_, ?_⟩ rfl (by rw [List.length_map, List.length_reverse]; exact hi.2) hls hstk (lv_room hroom) hd ⟨hcl, hsl⟩) hS (fun z _ hz => hA1 z hz) hA1 k
      · have := va_recv hK hP (ci := M'.2.2.2.1) (q0 := a) hc1 (by rw [jj_w_get ha, jj_ce_ob hi.1])
        rw [← ok3]
        exact this
      · intro U hU hW
        refine ⟨rfl, by rw [hU], by rw [hU]; exact hP, va_K.moved hW.alike hK, fun a' t n hn => va_K.moved hW.alike (hKa a' t n hn), ?_, by rw [hU]; exact hb1⟩
        have := va_X.moved (U := U) hW.alike hX1
        rw [hU]; exact this
    · cases h2
  · next i =>
    obtain ⟨M', hM, h2⟩ := jj_bmap (γ := Nat) hq
    obtain ⟨hok, w1, w2⟩ := jj_ms_ok _ (i, M') (jj_look hM)
    by_cases hi : (st.take M'.2.2.2.2).length = M'.2.2.2.2
    rotate_left
    · rw [if_neg hi] at h2; cases h2
    rw [if_pos hi] at h2
    cases h2
    dsimp only at hc hroom hS1 k
    have hMet := jj_met (vs := (st.take M'.2.2.2.2).reverse) hok hc.1 (hS1 hok) H.size
    have hst : st = st.take M'.2.2.2.2 ++ st.drop M'.2.2.2.2 := by rw [List.take_append_drop]
    have hstk : st.map (jj_tr ad) = (((st.take M'.2.2.2.2).reverse).map (jj_tr ad)).reverse ++ (st.drop M'.2.2.2.2).map (jj_tr ad) := by
      rw [← List.map_reverse, List.reverse_reverse]
      exact (congrArg (List.map (jj_tr ad)) hst).trans (List.map_append)
    refine jj_call (D := D) (ad := ad) (cA := cA) (rv := r) (h' := h1) (va_runS (As := ((st.take M'.2.2.2.2).reverse).map (jj_tr ad)) (rest := (st.drop M'.2.2.2.2).map (jj_tr ad)) (n := M'.2.2.2.2) (Ts := jj_wl) ⟨hx, hb, hml, hown, hts⟩ hMet
      ⟨callB_of (ws' := jj_wl) M'.2.2.2.2 hts (jj_goodW hok) rfl rfl rfl (hts _ hok.2.2.2.1) (hts _ w1) ⟨hok.2.2.2.2.1, hok.2.2.2.2.2.1, hok.2.2.2.2.2.2.1⟩ ⟨hfr, by have hz : M'.2.1 < 30 := hok.2.2.2.2.2.2.2; show 8 + (M'.2.1 + 11) + 60 * d ≤ R.locals; omega⟩, hts _ w2⟩
      ⟨jj_blind, ?_⟩ rfl (by rw [List.length_map, List.length_reverse]; exact hi) hls hstk (lv_room hroom) hd ⟨hcl, hsl⟩) hS (fun z _ hz => hA1 z hz) hA1 k
    intro U hU hW
    refine ⟨rfl, by rw [hU], by rw [hU]; exact hP, va_K.moved hW.alike hK, fun a' t n hn => va_K.moved hW.alike (hKa a' t n hn), ?_, by rw [hU]; exact hb1⟩
    have := va_X.moved (U := U) hW.alike hX1
    rw [hU]; exact this
  · cases hq
theorem jj_cal_len {c : Nat} {ins : Instr} {st : List Value} {q : jj_M × List Value × List Value} {len : Nat} (h : jj_cal c ins st = some q) (hl : jj_len ins len = len) : len = 3 := by
  unfold jj_cal at h
  split at h
  · exact hl.symm
  · exact hl.symm
  · cases h
theorem jj_fin_len {c : Option FieldType} {ins : Instr} {st : List Value} {q : Option Value} {len : Nat} (h : jj_fin c ins st = some q) (hl : jj_len ins len = len) : len = 1 := by
  unfold jj_fin at h
  split at h
  · exact hl.symm
  · exact hl.symm
  · exact hl.symm
  · exact hl.symm
  · cases h
/-- OUR FUNCTION'S RUN IS THE MACHINE'S -/
theorem jj_sound {l : Launch} {D : va_G} {ad : Nat → Nat} {cA : Nat → ClassId} {b : Nat} {sc : Nat × (Nat → Int32)} (hAd : jj_Ad ad b) : ∀ (n d : Nat) (M : jj_M) (pc : Nat) (lc st : List Value) (h : jj_Hp) (rv : Option Value) (h' : jj_Hp), jj_exec n d M pc lc st h = some (rv, h') → h.2.2 = sc → jj_Snd l D ad cA b sc d M pc lc st h rv h'
  | 0, d, M, pc, lc, st, h, rv, h', hx, hsc => by cases hx
  | n + 1, d, M, pc, lc, st, h, rv, h', hx, hsc => by
    intro p e R s m args below meth c Cx H locs cells slots Q ls hP hS hl hcl hsl hfin
    unfold jj_exec at hx
    split at hx
    · next ins len hd =>
      split at hx
      · next hlen =>
        split at hx
        · next r hf =>
          cases hx
          have e1 := (jj_fin_st hf).1
          have e2 := jj_fin_len hf hlen
          subst e2
          have := hfin H locs pc ls hP hS ⟨ins, st, hd, hf⟩
          rw [← e1] at this
          exact this
        · split at hx
          · next q hq =>
            split at hx
            · next hc =>
              cases d with
              | zero => cases hx
              | succ d' =>
                dsimp only at hx
                split at hx
                · next r h1 hcall =>
                  have e2 := jj_cal_len hq hlen
                  subst e2
                  refine jj_callOne hAd hd hq hc (fun _ => jj_sound hAd n d' q.1 0 _ [] h r h1 hcall hsc) Cx hP hS hl.1.1 hcl hsl (fun H1 locs1 hP1 hS1 => ?_)
                  have hsc1 : h1.2.2 = sc := (jj_exec_sc n _ _ _ _ _ _ _ _ hcall).trans hsc
                  have := jj_sound hAd n (d' + 1) M (pc + 3) lc (r.toList ++ q.2.2) h1 rv h' hx hsc1 p e R s m args below meth c Cx H1 locs1 cells slots Q ls hP1 hS1 hl hcl hsl hfin
                  have e3 : (r.toList ++ q.2.2).map (jj_tr ad) = (r.map (jj_tr ad)).toList ++ q.2.2.map (jj_tr ad) := by
                    rw [List.map_append]
                    cases r <;> rfl
                  rw [← e3]
                  exact this
                · cases hx
            · cases hx
          · split at hx
            · next P hPp =>
              obtain ⟨g1, g2⟩ := jj_step hd hlen hPp
              exact g2 hAd Cx hsc hP hS hl (fun H1 locs1 ls1 hP1 hS1 hl1 => jj_sound hAd n d M P.1 P.2.1 P.2.2.1 P.2.2.2 rv h' hx (g1.trans hsc) p e R s m args below meth c Cx H1 locs1 cells slots Q ls1 hP1 hS1 hl1 hcl hsl hfin)
            · cases hx
      · cases hx
    · cases hx

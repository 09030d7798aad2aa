/-! the reference: look -/
def lkLo (h kk : Int) : Nat → Int := fun t => if (t : Int) = h then kk else 0
def lkHi (b : Bk) (h kk : Int) : Nat → Int := fun t => if (t : Int) = h then kk else bT b t
def HH (b : Bk) (h kk : Int) : Prop := h = -1000000 ∨ (0 ≤ h ∧ h < (bN b : Nat) ∧ 0 ≤ kk ∧ kk ≤ bT b h.toNat)
theorem lkLo_no (kk : Int) : lkLo (-1000000) kk = fun _ => 0 := by
  funext t; exact if_neg (by omega)
theorem lkHi_no (b : Bk) (kk : Int) : lkHi b (-1000000) kk = bT b := by
  funext t; exact if_neg (by omega)
theorem lk_in {b : Bk} {h kk : Int} (hB : BR b) (hh : HH b h kk) {t : Nat} (ht : t < bN b) : 0 ≤ lkLo h kk t ∧ lkLo h kk t ≤ lkHi b h kk t ∧ lkHi b h kk t ≤ 9 ∧ (¬ (t : Int) = h → lkLo h kk t = 0 ∧ lkHi b h kk t = bT b t) ∧ ((t : Int) = h → lkLo h kk t = kk ∧ lkHi b h kk t = kk) := by
  have hT := (hB.2.2.1 t ht).2.2
  unfold lkLo lkHi
  by_cases e : (t : Int) = h
  · rw [if_pos e, if_pos e]
    rcases hh with hh | ⟨h1, h2, h3, h4⟩
    · omega
    · rw [show h.toNat = t by omega] at h4
      exact ⟨h3, Int.le_refl _, by omega, fun z => absurd e z, fun _ => ⟨rfl, rfl⟩⟩
  · rw [if_neg e, if_neg e]
    exact ⟨Int.le_refl _, hT.1, hT.2, fun _ => ⟨rfl, rfl⟩, fun z => absurd z e⟩
theorem SR.lm {b : Bk} {s : SvT} {lim p : Nat → Int} (hB : BR b) (h : SR b s) (hp : bd (bN b) p) : SR b (lkM b lim p s) := by
  unfold lkM
  split
  · exact h.nf (vl_bound hB hp) hp
  · exact h
theorem mk_congr {b : Bk} {Z : Nat → Nat → Int} {s : SvT} {p q : Nat → Int} {v : Int} (hpq : ∀ t, t < bN b → p t = q t) (h : MK b Z (nfS s p v)) : MK b Z (nfS s q v) := by
  unfold nfS at h ⊢
  by_cases e : s.1 < v
  · rw [if_pos e] at h ⊢
    obtain ⟨h1, h2, h3, h4⟩ := h
    exact ⟨h1, h2, h3, fun t ht => ⟨(h4 t ht).1.trans (hpq t ht), (h4 t ht).2⟩⟩
  · rw [if_neg e] at h ⊢
    by_cases e2 : v = s.1
    · rw [if_pos e2] at h ⊢
      obtain ⟨h1, h2, h3, h4⟩ := h
      refine ⟨h1, h2, h3, fun t ht => ⟨(h4 t ht).1, ?_⟩⟩
      rw [(h4 t ht).2]
      show (if p t = s.2.2.2.1 t then s.2.2.2.2.1 t else 0) = (if q t = s.2.2.2.1 t then s.2.2.2.2.1 t else 0)
      rw [hpq t ht]
    · rw [if_neg e2] at h ⊢
      exact h
theorem mk_fr {b : Bk} {Z Z' : Nat → Nat → Int} {s : SvT} (h : MK b Z s) (f : fr (fun a => a = 27 ∨ a = 38 ∨ a = 39) Z Z') : MK b Z' s := by
  obtain ⟨h1, h2, h3, h4⟩ := h
  refine ⟨by rw [f 27 (by omega)]; exact h1, by rw [f 27 (by omega)]; exact h2, by rw [f 27 (by omega)]; exact h3, fun t ht => ?_⟩
  rw [f 38 (by omega), f 39 (by omega)]; exact h4 t ht
section LK
variable {d : Nat} {Y : Nat → Nat → Int} {S : Nat × (Nat → Int32)} {K : jj_Hp → Prop} {Ki : Int → jj_Hp → Prop} {Q : Option Value → jj_Hp → Prop} {b : Bk} {h kk : Int}
theorem lX5_look23 {Z : Nat → Nat → Int} {v4 : Value} (hB : BR b) (hh : HH b h kk) (hn : Z 27 0 = (bN b : Nat)) : ∀ (n k : Nat) (Z' : Nat → Nat → Int), k + n = bN b → fr (fun a => ¬ a = 37) Z Z' → (∀ t, t < k → Z' 37 t = lkLo h kk t) → (∀ Z'', fr (fun a => ¬ a = 37) Z Z'' → (∀ t, t < bN b → Z'' 37 t = lkLo h kk t) → jj_Ex d mX5_look 53 [.ref 27, iv h, iv kk, iv ((bN b : Nat) : Int), v4] [] (jj_h Z'' Y S) Q) → jj_Ex d mX5_look 23 [.ref 27, iv h, iv kk, iv (k : Int), v4] [] (jj_h Z' Y S) Q := by
  have hN := hB.1
  have hb : i32 h := by
    rcases hh with hh | hh
    · omega
    · have := hh.2.1; have := hh.1; omega
  intro n
  induction n with
  | zero =>
    intro k Z' hk hf hv hQ
    have e1 : Z' 27 0 = (bN b : Nat) := (hf 27 (by omega) 0).trans hn
    refine bX5_look_23 (by omega) (by omega) (fun _ => ?_) (fun _ => by omega)
    have := hQ Z' hf (fun t ht => hv t (by omega))
    rw [show bN b = k by omega] at this
    exact this
  | succ n ih =>
    intro k Z' hk hf hv hQ
    have e1 : Z' 27 0 = (bN b : Nat) := (hf 27 (by omega) 0).trans hn
    have nx : jj_Ex d mX5_look 23 [.ref 27, iv h, iv kk, iv ((k : Int) + 1), v4] [] (jj_h (zu Z' 37 k (lkLo h kk k)) Y S) Q :=
      ih (k + 1) _ (by omega) (fun a ha j => by rw [zu_ne ha]; exact hf a ha j) (fun t ht => by
        by_cases e : t = k
        · subst e; rw [zu_at]
        · rw [zu_nk e]; exact hv t (by omega)) hQ
    refine bX5_look_23 (by omega) (by omega) (fun _ => by omega) (fun _ => bX5_look_31 (by omega) hb (fun e => bX5_look_45 (by omega) (by omega) ?_) (fun e => bX5_look_41 (by omega) (by omega) ?_))
    · rw [Int.toNat_natCast]
      rw [show lkLo h kk k = 0 from if_neg e] at nx
      exact nx
    · rw [Int.toNat_natCast]
      rw [show lkLo h kk k = kk from if_pos e] at nx
      exact nx
theorem lX5_look92 (hB : BR b) (hh : HH b h kk) : ∀ (k : Nat) (Z : Nat → Nat → Int) (p : Nat → Int), k ≤ bN b → MB Z b → (∀ t, t < bN b → Z 37 t = p t) → bx (lkLo h kk) (lkHi b h kk) (bN b) p → ((∀ t, t < k → lkHi b h kk t ≤ p t) → ∀ Z' w, fr (fun a => ¬ a = 37) Z Z' → jj_Ex d mX5_look 55 [.ref 27, iv h, iv kk, iv 0, iv w] [] (jj_h Z' Y S) Q) → (¬ (∀ t, t < k → lkHi b h kk t ≤ p t) → ∀ Z' w, fr (fun a => ¬ a = 37) Z Z' → (∀ t, t < bN b → Z' 37 t = od2 (lkLo h kk) (lkHi b h kk) k p t) → jj_Ex d mX5_look 55 [.ref 27, iv h, iv kk, iv 1, iv w] [] (jj_h Z' Y S) Q) → jj_Ex d mX5_look 92 [.ref 27, iv h, iv kk, iv 1, iv ((k : Int) - 1)] [] (jj_h Z Y S) Q := by
  have hN := hB.1
  have hb : i32 h := by
    rcases hh with hh | hh
    · omega
    · have := hh.2.1; have := hh.1; omega
  intro k
  induction k with
  | zero =>
    intro Z p hk hM h37 hp kw kn
    exact bX5_look_92 (by omega) (fun _ => bX5_look_144 (by omega) (fun _ => bX5_look_153 (kw (fun t ht => by omega) Z _ fr.rf)) (fun _ => by omega)) (fun _ => by omega)
  | succ k ih =>
    intro Z p hk hM h37 hp kw kn
    have ek : (((k + 1 : Nat) : Int) - 1) = (k : Int) := by omega
    rw [ek]
    have e37 := h37 k (by omega)
    have e29 := (hM.2.2.1 k (by omega)).2
    have hT := (hB.2.2.1 k (by omega)).2.2
    have hpk := hp k (by omega)
    obtain ⟨l1, l2, l3, l4, l5⟩ := lk_in hB hh (t := k) (by omega)
    have e2 : ((k : Int)).toNat = k := by omega
    -- the digit is full: it goes back, and the next one is looked at
    have go : lkHi b h kk k ≤ p k → jj_Ex d mX5_look 120 [.ref 27, iv h, iv kk, iv 1, iv (k : Int)] [] (jj_h Z Y S) Q := by
      intro top
      have nx : jj_Ex d mX5_look 92 [.ref 27, iv h, iv kk, iv 1, iv ((k : Int) - 1)] [] (jj_h (zu Z 37 k (lkLo h kk k)) Y S) Q := by
        have f1 : fr (fun a => ¬ a = 37) Z (zu Z 37 k (lkLo h kk k)) := fun a ha j => zu_ne ha
        refine ih _ (pu p k (lkLo h kk k)) (by omega) (hM.fr (f1.mono (fun a ha => by unfold mbc at ha; omega)) (f1 27 (by omega) 0) (f1 27 (by omega) 3)) (fun t ht => ?_) (fun t ht => ?_) (fun hw Z' w f2 => kw (fun t ht => ?_) Z' w (f1.trans f2)) (fun hn Z' w f2 h2 => kn (fun hz => hn (fun t ht => ?_)) Z' w (f1.trans f2) ?_)
        · by_cases e : t = k
          · subst e; rw [zu_at, pu_at]
          · rw [zu_nk e, pu_ne p _ e]; exact h37 t ht
        · by_cases e : t = k
          · subst e; rw [pu_at]; omega
          · rw [pu_ne p _ e]; exact hp t ht
        · by_cases e : t = k
          · subst e; exact top
          · have := hw t (by omega)
            rw [pu_ne p _ e] at this; exact this
        · rw [pu_ne p _ (by omega)]; exact hz t (by omega)
        · intro t ht
          rw [h2 t ht]
          show _ = (if lkHi b h kk k ≤ p k then od2 (lkLo h kk) (lkHi b h kk) k (pu p k (lkLo h kk k)) else pu p k (p k + 1)) t
          rw [if_pos top]
      refine bX5_look_120 (by omega) hb (fun e => bX5_look_136 (by omega) (by omega) ?_) (fun e => bX5_look_132 (by omega) (by omega) ?_)
      · rw [e2]; rw [(l4 e).1] at nx; exact nx
      · rw [e2]; rw [(l5 e).1] at nx; exact nx
    refine bX5_look_92 (by omega) (fun _ => by omega) (fun _ => bX5_look_97 (by omega) hb (fun e => go ?_) (fun e => bX5_look_103 (by omega) (by omega) (by omega) (by omega) (by rw [e2]; omega) (by rw [e2]; omega) (fun e3 => bX5_look_144 (by omega) (fun _ => by omega) (fun _ => bX5_look_149 (by omega) (by omega) (by omega) (by omega) ?_)) (fun e3 => go ?_)))
    · have := l5 e; omega
    · rw [e2] at e3 ⊢
      have hl := l4 e
      have nt : ¬ lkHi b h kk k ≤ p k := by omega
      refine kn (fun hz => nt (hz k (by omega))) _ _ (fun a ha j => zu_ne ha) (fun t ht => ?_)
      show _ = (if lkHi b h kk k ≤ p k then od2 (lkLo h kk) (lkHi b h kk) k (pu p k (lkLo h kk k)) else pu p k (p k + 1)) t
      rw [if_neg nt]
      by_cases et : t = k
      · subst et; rw [zu_at, pu_at, e37]
      · rw [zu_nk et, pu_ne p _ et]; exact h37 t ht
    · rw [e2] at e3
      have hl := l4 e
      omega
theorem lX5_look_body {Z Z0 : Nat → Nat → Int} {p : Nat → Int} {s : SvT} {c : Int} {w : Value} (hB : BR b) (hM : MB Z b) (h37 : ∀ t, t < bN b → Z 37 t = p t) (hp : bd (bN b) p) (hK : MK b Z s) (hR : SR b s) (h17 : Z 27 17 = c) (f0 : fr tkc Z0 Z) (g0 : m27 Z0 Z) (k : ∀ Z', fr tkc Z0 Z' → m27 Z0 Z' → MB Z' b → (∀ t, t < bN b → Z' 37 t = p t) → MK b Z' (lkM b (lim0 b) p s) → Z' 27 17 = c + 1 → jj_Ex (d + 2) mX5_look 92 [.ref 27, iv h, iv kk, iv 1, iv (((bN b : Nat) : Int) - 1)] [] (jj_h Z' Y S) Q) : jj_Ex (d + 2) mX5_look 55 [.ref 27, iv h, iv kk, iv 1, w] [] (jj_h Z Y S) Q := by
  have hN := hB.1
  have f1 : fr tkc Z (zu Z 27 17 (Z 27 17 + 1)) := fun a ha j => by unfold tkc at ha; rw [zu_ne (by omega)]
  have g1 : m27 Z (zu Z 27 17 (Z 27 17 + 1)) := fun j hj => by rw [zu_nk (by omega)]
  have hM1 := mb_tk hM f1 g1
  have e37 : zu Z 27 17 (Z 27 17 + 1) 37 = Z 37 := by funext t; exact zu_ne (by omega)
  have e37p : ∀ t, t < bN b → zu Z 27 17 (Z 27 17 + 1) 37 t = p t := fun t ht => by rw [e37]; exact h37 t ht
  have hp1 : bd (bN b) (zu Z 27 17 (Z 27 17 + 1) 37) := fun t ht => by rw [e37p t ht]; exact hp t ht
  have hK1 : MK b (zu Z 27 17 (Z 27 17 + 1)) s := by
    obtain ⟨k1, k2, k3, k4⟩ := hK
    refine ⟨by rw [zu_nk (by omega)]; exact k1, by rw [zu_nk (by omega)]; exact k2, by rw [zu_nk (by omega)]; exact k3, fun t ht => ?_⟩
    rw [zu_ne (by omega), zu_ne (by omega)]; exact k4 t ht
  have e17 : zu Z 27 17 (Z 27 17 + 1) 27 17 = c + 1 := by rw [zu_at, h17]
  refine bX5_look_55 (by omega) (fun e => by omega) (fun _ => bX5_look_59 (kX5_fits hB hM1 hp1 (fun hf => bX5_look_77 (by omega) (fun e => by omega) (fun _ => bX5_look_80 (kX5_take hB hM1 hp1 hK1 hR (fun Z2 f2 g2 h372 h17' hK2 => bX5_look_84 ?_)))) (fun hf => bX5_look_77 (by omega) (fun _ => bX5_look_84 ?_) (fun e => absurd rfl e))))
  · have hM2 := mb_tk hM1 f2 g2
    rw [hM2.1]
    refine k Z2 (f0.trans (f1.trans f2)) (g0.trans (g1.trans g2)) hM2 (fun t ht => by rw [h372]; exact e37p t ht) ?_ (by rw [h17']; exact e17)
    unfold lkM
    rw [if_pos ((fo_fit _ _ _).2 ((fit_congr hB e37p).1 hf))]
    rw [vlp_congr e37p] at hK2
    exact mk_congr e37p hK2
  · rw [hM1.1]
    refine k _ (f0.trans f1) (g0.trans g1) hM1 e37p ?_ e17
    unfold lkM
    rw [if_neg (fun z => hf ((fit_congr hB e37p).2 ((fo_fit _ _ _).1 z)))]
    exact hK1
theorem lX5_look55 {Z0 : Nat → Nat → Int} (hB : BR b) (hh : HH b h kk) : ∀ (n : Nat) (Z : Nat → Nat → Int) (p : Nat → Int) (s : SvT) (c : Int) (w : Value), rk (lkLo h kk) (lkHi b h kk) (bN b) p + ((n + 1 : Nat) : Int) = sz (lkLo h kk) (lkHi b h kk) (bN b) → MB Z b → (∀ t, t < bN b → Z 37 t = p t) → bx (lkLo h kk) (lkHi b h kk) (bN b) p → MK b Z s → SR b s → Z 27 17 = c → fr tkc Z0 Z → m27 Z0 Z → (∀ Z', fr tkc Z0 Z' → m27 Z0 Z' → MK b Z' (fdl (lkLo h kk) (lkHi b h kk) (bN b) (lkM b (lim0 b)) (n + 1) p s) → SR b (fdl (lkLo h kk) (lkHi b h kk) (bN b) (lkM b (lim0 b)) (n + 1) p s) → Z' 27 17 = c + ((n + 1 : Nat) : Int) → Q none (jj_h Z' Y S)) → jj_Ex (d + 2) mX5_look 55 [.ref 27, iv h, iv kk, iv 1, w] [] (jj_h Z Y S) Q := by
  have hN := hB.1
  have f37 : ∀ {Z Z' : Nat → Nat → Int}, fr (fun a => ¬ a = 37) Z Z' → fr tkc Z Z' ∧ m27 Z Z' ∧ fr (fun a => a = 27 ∨ a = 38 ∨ a = 39) Z Z' := fun f => ⟨f.mono (fun a ha => by unfold tkc at ha; omega), fun j _ => f 27 (by omega) j, f.mono (fun a ha => by omega)⟩
  intro n
  induction n with
  | zero =>
    intro Z p s c w hrk hM h37 hp hK hR h17 f0 g0 hQ
    have hpd : bd (bN b) p := bx_bd (fun t ht => (lk_in hB hh ht).1) (fun t ht => (lk_in hB hh ht).2.2.1) hp
    refine lX5_look_body hB hM h37 hpd hK hR h17 f0 g0 (fun Z1 f1 g1 hM1 h371 hK1 h171 => lX5_look92 hB hh (bN b) Z1 p (Nat.le_refl _) hM1 h371 hp (fun _ Z2 w f2 => ?_) (fun hn Z2 w f2 h2 => ?_))
    · obtain ⟨q1, q2, q3⟩ := f37 f2
      exact bX5_look_55 (by omega) (fun _ => bX5_look_173 (hQ Z2 (f1.trans q1) (g1.trans q2) (mk_fr hK1 q3) (hR.lm hB hpd) (by rw [f2 27 (by omega)]; exact h171))) (fun e => absurd rfl e)
    · have a := rk_next _ hp hn
      have := rk_lt _ a.1
      omega
  | succ n ih =>
    intro Z p s c w hrk hM h37 hp hK hR h17 f0 g0 hQ
    have hpd : bd (bN b) p := bx_bd (fun t ht => (lk_in hB hh ht).1) (fun t ht => (lk_in hB hh ht).2.2.1) hp
    refine lX5_look_body hB hM h37 hpd hK hR h17 f0 g0 (fun Z1 f1 g1 hM1 h371 hK1 h171 => lX5_look92 hB hh (bN b) Z1 p (Nat.le_refl _) hM1 h371 hp (fun hw Z2 w f2 => ?_) (fun hn Z2 w f2 h2 => ?_))
    · have := rk_top _ hp hw
      omega
    · have a := rk_next _ hp hn
      obtain ⟨q1, q2, q3⟩ := f37 f2
      refine ih Z2 _ _ (c + 1) _ (by rw [a.2]; omega) (mb_tk hM1 q1 q2) h2 a.1 (mk_fr hK1 q3) (hR.lm hB hpd) (by rw [f2 27 (by omega)]; exact h171) (f1.trans q1) (g1.trans q2) (fun Z' f3 g3 hK3 hR3 h173 => hQ Z' f3 g3 hK3 hR3 (by rw [h173]; omega))
/-- before a look begins -/
def s00 (Z : Nat → Nat → Int) : SvT := (-1000000, 0, 0, Z 38, Z 39, (fun _ _ => -1000000), (fun _ => -1000000))
/-- what a look finds -/
def lkF (b : Bk) (h kk : Int) (s : SvT) : SvT := fdl (lkLo h kk) (lkHi b h kk) (bN b) (lkM b (lim0 b)) (sz (lkLo h kk) (lkHi b h kk) (bN b)).toNat (lkLo h kk) s
theorem kX5_look {Z : Nat → Nat → Int} (hB : BR b) (hM : MB Z b) (hh : HH b h kk) (k : ∀ Z', fr tkc Z Z' → m27 Z Z' → MB Z' b → MK b Z' (lkF b h kk (s00 Z)) → SR b (lkF b h kk (s00 Z)) → Z' 27 17 = sz (lkLo h kk) (lkHi b h kk) (bN b) → K (jj_h Z' Y S)) : jj_Cv (d + 2) mX5_look [.ref 27, iv h, iv kk] (jj_h Z Y S) K := by
  have hN := hB.1
  have hlh : ∀ t, t < bN b → lkLo h kk t ≤ lkHi b h kk t := fun t ht => (lk_in hB hh ht).2.1
  have hs := sz_pos (bN b) hlh
  have e17 : ∀ j, zu (zu (zu (zu Z 27 12 (-1000000)) 27 13 0) 27 16 0) 27 17 0 27 j = if j = 17 then 0 else if j = 16 then 0 else if j = 13 then 0 else if j = 12 then -1000000 else Z 27 j := by
    intro j
    simp [zu]
  have eo : ∀ a j, ¬ a = 27 → zu (zu (zu (zu Z 27 12 (-1000000)) 27 13 0) 27 16 0) 27 17 0 a j = Z a j := fun a j ha => by rw [zu_ne ha, zu_ne ha, zu_ne ha, zu_ne ha]
  refine nX5_look (bX5_look_0 (lX5_look23 hB hh ?_ (bN b) 0 _ (by omega) fr.rf (fun t ht => by omega) (fun Z1 f1 h1 => bX5_look_53 ?_)))
  · rw [e17]; exact hM.1
  · have f01 : fr tkc Z Z1 := fun a ha j => by unfold tkc at ha; rw [f1 a (by omega), eo a j (by omega)]
    have g01 : m27 Z Z1 := fun j hj => by rw [f1 27 (by omega), e17, if_neg (by omega), if_neg (by omega), if_neg (by omega), if_neg (by omega)]
    have en : (sz (lkLo h kk) (lkHi b h kk) (bN b)).toNat = ((sz (lkLo h kk) (lkHi b h kk) (bN b)).toNat - 1) + 1 := by omega
    refine lX5_look55 (Z0 := Z) hB hh ((sz (lkLo h kk) (lkHi b h kk) (bN b)).toNat - 1) Z1 (lkLo h kk) (s00 Z) 0 _ (by rw [rk_lo]; omega) (mb_tk hM f01 g01) h1 (fun t ht => ⟨Int.le_refl _, hlh t ht⟩) ⟨?_, ?_, ?_, fun t ht => ⟨?_, ?_⟩⟩ ⟨Or.inl rfl, fun t c _ _ => ⟨Int.le_refl _, by show (-1000000 : Int) ≤ 4000; omega⟩, fun r _ => ⟨Int.le_refl _, by show (-1000000 : Int) ≤ 4000; omega⟩, fun t _ => Or.inl rfl⟩ ?_ f01 g01 (fun Z' f g hK hR h17 => ⟨rfl, k Z' f g (mb_tk hM f g) ?_ ?_ ?_⟩)
    · rw [f1 27 (by omega), e17]; rfl
    · rw [f1 27 (by omega), e17]; rfl
    · rw [f1 27 (by omega), e17]; rfl
    · rw [f1 38 (by omega), eo _ _ (by omega)]; rfl
    · rw [f1 39 (by omega), eo _ _ (by omega)]; rfl
    · rw [f1 27 (by omega), e17]; rfl
    · unfold lkF; rw [en]; exact hK
    · unfold lkF; rw [en]; exact hR
    · rw [h17]; omega
end LK

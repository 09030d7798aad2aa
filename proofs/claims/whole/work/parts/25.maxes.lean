/-! what the walks through all plans find -/
def lkM (b : Bk) (lim p : Nat → Int) (s : SvT) : SvT := if fo b lim p 0 (bM b) = -1000000 then nfS s p (vlp b p) else s
theorem laS_fdl (b : Bk) (lim ms : Nat → Int) : ∀ (k : Nat) (p : Nat → Int) (s : SvT), laS b lim ms k p s = fdl (fun _ => 0) ms (bN b) (lkS b lim) k p s
  | 0, p, s => rfl
  | k + 1, p, s => by
    show laS b lim ms k (od ms (bN b) p) (lkS b lim p s) = fdl (fun _ => 0) ms (bN b) (lkS b lim) k (od2 (fun _ => 0) ms (bN b) p) (lkS b lim p s)
    rw [laS_fdl b lim ms k, od_od2]
def gfS (b : Bk) (lim p : Nat → Int) (g : Int) : Int := if g < vlp b p ∧ fo b lim p 0 (bM b) = -1000000 then vlp b p else g
theorem gf_fdl (b : Bk) (lim ms : Nat → Int) : ∀ (k : Nat) (p : Nat → Int) (g : Int), gf b lim ms k p g = fdl (fun _ => 0) ms (bN b) (gfS b lim) k p g
  | 0, p, s => rfl
  | k + 1, p, s => by
    show gf b lim ms k (od ms (bN b) p) (gfS b lim p s) = fdl (fun _ => 0) ms (bN b) (gfS b lim) k (od2 (fun _ => 0) ms (bN b) p) (gfS b lim p s)
    rw [gf_fdl b lim ms k, od_od2]
/-- those of a box, before a place, of a kind -/
def Ai (lo hi : Nat → Int) (n : Nat) (C : (Nat → Int) → Prop) (i : Int) (q : Nat → Int) : Prop := bx lo hi n q ∧ rk lo hi n q < i ∧ C q
section MS
variable {lo hi : Nat → Int} {n : Nat} {C : (Nat → Int) → Prop} {V : (Nat → Int) → Int} {i M : Int} {p : Nat → Int}
theorem mx_yes (hV : ∀ q, (∀ t, t < n → q t = p t) → V q = V p) (hp : bx lo hi n p) (hi' : rk lo hi n p = i) (h : mxq (Ai lo hi n C i) V M) (c : C p) (hv : -1000000 < V p) : mxq (Ai lo hi n C (i + 1)) V (max M (V p)) := by
  refine h.add hv (fun q hq => ?_) (fun q hq => ⟨hq.1, by have := hq.2.1; omega, hq.2.2⟩) ⟨p, ⟨hp, by omega, c⟩, rfl⟩
  by_cases e : rk lo hi n q < i
  · exact Or.inl ⟨hq.1, e, hq.2.2⟩
  · refine Or.inr (hV q (fun t ht => ?_))
    have := hq.2.1
    exact rk_inj n hq.1 hp (by omega) t ht
theorem mx_no (hC : ∀ q, (∀ t, t < n → q t = p t) → C q → C p) (hp : bx lo hi n p) (hi' : rk lo hi n p = i) (h : mxq (Ai lo hi n C i) V M) (c : ¬ C p) : mxq (Ai lo hi n C (i + 1)) V M := by
  refine h.congr (fun q => ⟨fun hq => ?_, fun hq => ⟨hq.1, by have := hq.2.1; omega, hq.2.2⟩⟩)
  by_cases e : rk lo hi n q < i
  · exact ⟨hq.1, e, hq.2.2⟩
  · have := hq.2.1
    exact absurd (hC q (fun t ht => rk_inj n hq.1 hp (by omega) t ht) hq.2.2) c
theorem mx_0 : mxq (Ai lo hi n C 0) V (-1000000) := mxq.emp (fun q hq => by have := rk_lt n hq.1; have := hq.2.1; omega)
theorem mx_end (h : mxq (Ai lo hi n C (sz lo hi n)) V M) : mxq (fun q => bx lo hi n q ∧ C q) V M := h.congr (fun q => ⟨fun hq => ⟨hq.1, (rk_lt n hq.1).2, hq.2⟩, fun hq => ⟨hq.1, hq.2.2⟩⟩)
end MS
theorem nf_1 (s : SvT) (p : Nat → Int) (v : Int) : (nfS s p v).1 = max s.1 v := by
  unfold nfS
  split
  · show v = max s.1 v; omega
  · split
    · show s.1 = max s.1 v; omega
    · show s.1 = max s.1 v; omega
theorem nf_w (s : SvT) (p : Nat → Int) (v : Int) (t c : Nat) : (nfS s p v).2.2.2.2.2.1 t c = if (c : Int) = p t then max (s.2.2.2.2.2.1 t c) v else s.2.2.2.2.2.1 t c := by
  unfold nfS
  split
  · rfl
  · split <;> rfl
theorem nf_f (s : SvT) (p : Nat → Int) (v : Int) : (nfS s p v).2.2.2.2.2.2 = s.2.2.2.2.2.2 := by
  unfold nfS
  split
  · rfl
  · split <;> rfl
theorem nf_p (s : SvT) (p : Nat → Int) (v : Int) : (s.1 < v ∧ (nfS s p v).2.2.2.1 = p) ∨ (¬ s.1 < v ∧ (nfS s p v).2.2.2.1 = s.2.2.2.1) := by
  unfold nfS
  split
  · next h => exact Or.inl ⟨h, rfl⟩
  · next h =>
    split
    · exact Or.inr ⟨h, rfl⟩
    · exact Or.inr ⟨h, rfl⟩
/-- over in one rule alone -/
def only (b : Bk) (lim : Nat → Int) (r : Nat) (q : Nat → Int) : Prop := lim r < ldp b q r ∧ ∀ r', r' < bM b → ¬ r' = r → ldp b q r' ≤ lim r'
section FM
variable {b : Bk} {lim lo hi : Nat → Int} {s : SvT}
theorem mM (hB : BR b) (h0 : ∀ t, t < bN b → 0 ≤ lo t) (h9 : ∀ t, t < bN b → hi t ≤ 9) (hlh : ∀ t, t < bN b → lo t ≤ hi t) (hs : s.1 = -1000000) : mxq (fun q => bx lo hi (bN b) q ∧ fit b lim q) (vlp b) (fdl lo hi (bN b) (lkM b lim) (sz lo hi (bN b)).toNat lo s).1 := by
  refine mx_end (fdl_all (P := fun i (s : SvT) => mxq (Ai lo hi (bN b) (fit b lim) i) (vlp b) s.1) hlh (fun i p s hp hi' h => ?_) ?_)
  · have hv := vl_bound hB (bx_bd h0 h9 hp)
    unfold lkM
    by_cases e : fo b lim p 0 (bM b) = -1000000
    · rw [if_pos e, nf_1]
      exact mx_yes (fun q hq => vlp_congr hq) hp hi' h ((fo_fit b lim p).1 e) (by omega)
    · rw [if_neg e]
      exact mx_no (fun q hq => (fit_congr hB hq).1) hp hi' h (fun z => e ((fo_fit b lim p).2 z))
  · show mxq _ _ s.1
    rw [hs]; exact mx_0
theorem mG (hB : BR b) (h9 : bd (bN b) hi) (hz : fit b lim (fun _ => 0)) : mxq (fun q => bx (fun _ => 0) hi (bN b) q ∧ fit b lim q) (vlp b) (fdl (fun _ => 0) hi (bN b) (gfS b lim) (sz (fun _ => 0) hi (bN b)).toNat (fun _ => 0) 0) := by
  have hlh : ∀ t, t < bN b → (fun _ => (0 : Int)) t ≤ hi t := fun t ht => (h9 t ht).1
  have z0 : vlp b (fun _ => 0) = 0 := by
    unfold vlp
    rw [sf_congr (g := fun _ => 0) _ _ (fun i _ _ => Int.zero_mul _), sf_zero]
  have hb0 : bx (fun _ => 0) hi (bN b) (fun _ => 0) := fun t ht => ⟨Int.le_refl _, hlh t ht⟩
  have h := fdl_all (n := bN b) (lo := fun _ => 0) (hi := hi) (f := gfS b lim) (P := fun i g => 0 ≤ g ∧ mxq (fun q => Ai (fun _ => 0) hi (bN b) (fit b lim) i q ∨ ∀ t, t < bN b → q t = 0) (vlp b) g) hlh (fun i p g hp hi' h => ?_) (s := 0) ?_
  · refine h.2.congr (fun q => ⟨fun hq => Or.inl ⟨hq.1, (rk_lt _ hq.1).2, hq.2⟩, fun hq => ?_⟩)
    rcases hq with hq | hq
    · exact ⟨hq.1, hq.2.2⟩
    · exact ⟨fun t ht => by rw [hq t ht]; exact hb0 t ht, (fit_congr hB hq).2 hz⟩
  · have hv := vl_bound hB (bx_bd (fun _ _ => Int.le_refl _) (fun t ht => (h9 t ht).2) hp)
    obtain ⟨g0, hm⟩ := h
    unfold gfS
    by_cases e : fo b lim p 0 (bM b) = -1000000
    · have c : fit b lim p := (fo_fit b lim p).1 e
      have := hm.add (A' := fun q => Ai (fun _ => 0) hi (bN b) (fit b lim) (i + 1) q ∨ ∀ t, t < bN b → q t = 0) (v := vlp b p) (by omega) (fun q hq => ?_) (fun q hq => ?_) ⟨p, Or.inl ⟨hp, by omega, c⟩, rfl⟩
      · by_cases e2 : g < vlp b p
        · rw [if_pos ⟨e2, e⟩]
          rw [show max g (vlp b p) = vlp b p by omega] at this
          exact ⟨by omega, this⟩
        · rw [if_neg (fun z => e2 z.1)]
          rw [show max g (vlp b p) = g by omega] at this
          exact ⟨g0, this⟩
      · rcases hq with hq | hq
        · by_cases e3 : rk (fun _ => 0) hi (bN b) q < i
          · exact Or.inl (Or.inl ⟨hq.1, e3, hq.2.2⟩)
          · have := hq.2.1
            exact Or.inr (vlp_congr (fun t ht => rk_inj _ hq.1 hp (by omega) t ht))
        · exact Or.inl (Or.inr hq)
      · rcases hq with hq | hq
        · exact Or.inl ⟨hq.1, by have := hq.2.1; omega, hq.2.2⟩
        · exact Or.inr hq
    · rw [if_neg (fun z => e z.2)]
      refine ⟨g0, hm.congr (fun q => ⟨fun hq => ?_, fun hq => ?_⟩)⟩
      · rcases hq with hq | hq
        · by_cases e3 : rk (fun _ => 0) hi (bN b) q < i
          · exact Or.inl ⟨hq.1, e3, hq.2.2⟩
          · have := hq.2.1
            exact absurd ((fo_fit b lim p).2 ((fit_congr hB (fun t ht => rk_inj _ hq.1 hp (by omega) t ht)).1 hq.2.2)) e
        · exact Or.inr hq
      · rcases hq with hq | hq
        · exact Or.inl ⟨hq.1, by have := hq.2.1; omega, hq.2.2⟩
        · exact Or.inr hq
  · refine ⟨Int.le_refl _, Or.inr ⟨⟨fun _ => 0, Or.inr (fun _ _ => rfl), z0⟩, fun q hq => ?_⟩⟩
    rcases hq with hq | hq
    · have := rk_lt _ hq.1
      have := hq.2.1
      omega
    · rw [vlp_congr (q := fun _ => 0) hq, z0]; exact Int.le_refl _
/-- all that the survey finds -/
def SvP (b : Bk) (lim hi : Nat → Int) (s : SvT) : Prop := mxq (fun q => bx (fun _ => 0) hi (bN b) q ∧ fit b lim q) (vlp b) s.1 ∧ (¬ s.1 = -1000000 → bx (fun _ => 0) hi (bN b) s.2.2.2.1 ∧ fit b lim s.2.2.2.1 ∧ vlp b s.2.2.2.1 = s.1) ∧ (∀ t c : Nat, t < bN b → mxq (fun q => bx (fun _ => 0) hi (bN b) q ∧ (fit b lim q ∧ q t = (c : Int))) (vlp b) (s.2.2.2.2.2.1 t c)) ∧ (∀ r, r < bM b → mxq (fun q => bx (fun _ => 0) hi (bN b) q ∧ only b lim r q) (vlp b) (s.2.2.2.2.2.2 r))
theorem only_congr {r : Nat} {p q : Nat → Int} (hB : BR b) (hr : r < bM b) (hq : ∀ t, t < bN b → q t = p t) (h : only b lim r q) : only b lim r p := by
  refine ⟨?_, fun r' hr' e => ?_⟩
  · rw [← ldp_congr hB hq hr]; exact h.1
  · rw [← ldp_congr hB hq hr']; exact h.2 r' hr' e
theorem mS (hB : BR b) (h9 : bd (bN b) hi) (hs : s.1 = -1000000) (hw : ∀ t c, s.2.2.2.2.2.1 t c = -1000000) (hf : ∀ r, s.2.2.2.2.2.2 r = -1000000) : SvP b lim hi (fdl (fun _ => 0) hi (bN b) (lkS b lim) (sz (fun _ => 0) hi (bN b)).toNat (fun _ => 0) s) := by
  have hlh : ∀ t, t < bN b → (fun _ => (0 : Int)) t ≤ hi t := fun t ht => (h9 t ht).1
  have h := fdl_all (n := bN b) (lo := fun _ => 0) (hi := hi) (f := lkS b lim) (P := fun i (s : SvT) => mxq (Ai (fun _ => 0) hi (bN b) (fit b lim) i) (vlp b) s.1 ∧ (¬ s.1 = -1000000 → bx (fun _ => 0) hi (bN b) s.2.2.2.1 ∧ fit b lim s.2.2.2.1 ∧ vlp b s.2.2.2.1 = s.1) ∧ (∀ t c : Nat, t < bN b → mxq (Ai (fun _ => 0) hi (bN b) (fun q => fit b lim q ∧ q t = (c : Int)) i) (vlp b) (s.2.2.2.2.2.1 t c)) ∧ (∀ r, r < bM b → mxq (Ai (fun _ => 0) hi (bN b) (only b lim r) i) (vlp b) (s.2.2.2.2.2.2 r))) hlh (fun i p s hp hi' h => ?_) (s := s) ?_
  · exact ⟨mx_end h.1, h.2.1, fun t c ht => mx_end (h.2.2.1 t c ht), fun r hr => mx_end (h.2.2.2 r hr)⟩
  · obtain ⟨h1, h2, h3, h4⟩ := h
    have hv := vl_bound hB (bx_bd (fun _ _ => Int.le_refl _) (fun t ht => (h9 t ht).2) hp)
    unfold lkS
    by_cases e : fo b lim p 0 (bM b) = -1000000
    · have c : fit b lim p := (fo_fit b lim p).1 e
      rw [if_pos e]
      refine ⟨?_, fun hn => ?_, fun t k ht => ?_, fun r hr => ?_⟩
      · rw [nf_1]; exact mx_yes (fun q hq => vlp_congr hq) hp hi' h1 c (by omega)
      · rw [nf_1]
        rcases nf_p s p (vlp b p) with ⟨g1, g2⟩ | ⟨g1, g2⟩
        · rw [g2]; exact ⟨hp, c, by omega⟩
        · rw [g2, show max s.1 (vlp b p) = s.1 by omega]; exact h2 (by omega)
      · rw [nf_w]
        by_cases ek : (k : Int) = p t
        · rw [if_pos ek]
          exact mx_yes (fun q hq => vlp_congr hq) hp hi' (h3 t k ht) ⟨c, ek.symm⟩ (by omega)
        · rw [if_neg ek]
          exact mx_no (fun q hq hc => ⟨(fit_congr hB hq).1 hc.1, by rw [← hq t ht]; exact hc.2⟩) hp hi' (h3 t k ht) (fun z => ek z.2.symm)
      · rw [nf_f]
        refine mx_no (fun q hq => only_congr hB hr hq) hp hi' (h4 r hr) (fun z => ?_)
        have := c r hr
        have := z.1
        omega
    · have nc : ¬ fit b lim p := fun z => e ((fo_fit b lim p).2 z)
      obtain ⟨r0, q1, q2, q3, q4, q5⟩ := fo_some b lim p _ _ e
      rw [if_neg e, q1, Int.toNat_natCast]
      have a1 : mxq (Ai (fun _ => 0) hi (bN b) (fit b lim) (i + 1)) (vlp b) s.1 := mx_no (fun q hq => (fit_congr hB hq).1) hp hi' h1 nc
      have a3 : ∀ t c : Nat, t < bN b → mxq (Ai (fun _ => 0) hi (bN b) (fun q => fit b lim q ∧ q t = (c : Int)) (i + 1)) (vlp b) (s.2.2.2.2.2.1 t c) := fun t k ht => mx_no (fun q hq hc => ⟨(fit_congr hB hq).1 hc.1, by rw [← hq t ht]; exact hc.2⟩) hp hi' (h3 t k ht) (fun z => nc z.1)
      by_cases e2 : fo b lim p (r0 + 1) (bM b - (r0 + 1)) = -1000000
      · rw [if_pos e2]
        have e2' := (fo_none b lim p _ _).1 e2
        refine ⟨a1, h2, a3, fun r hr => ?_⟩
        show mxq _ _ (if r = r0 then max (s.2.2.2.2.2.2 r) (vlp b p) else s.2.2.2.2.2.2 r)
        by_cases er : r = r0
        · subst er
          rw [if_pos rfl]
          refine mx_yes (fun q hq => vlp_congr hq) hp hi' (h4 r hr) ⟨q4, fun r' hr' ne => ?_⟩ (by omega)
          by_cases lt : r' < r
          · exact q5 r' (by omega) lt
          · exact e2' r' (by omega) (by omega)
        · rw [if_neg er]
          refine mx_no (fun q hq => only_congr hB hr hq) hp hi' (h4 r hr) (fun z => ?_)
          have := z.2 r0 (by omega) (fun z => er z.symm)
          omega
      · rw [if_neg e2]
        obtain ⟨r1, w1, w2, w3, w4, w5⟩ := fo_some b lim p _ _ e2
        refine ⟨a1, h2, a3, fun r hr => mx_no (fun q hq => only_congr hB hr hq) hp hi' (h4 r hr) (fun z => ?_)⟩
        by_cases er : r = r0
        · subst er
          have := z.2 r1 (by omega) (by omega)
          omega
        · have := z.2 r0 (by omega) (fun z => er z.symm)
          omega
  · refine ⟨by rw [hs]; exact mx_0, fun hn => absurd hs hn, fun t c ht => by rw [hw]; exact mx_0, fun r hr => by rw [hf]; exact mx_0⟩
end FM
/-- the same of what both look at -/
def sim (s s' : SvT) : Prop := s.1 = s'.1 ∧ s.2.1 = s'.2.1 ∧ s.2.2.1 = s'.2.2.1 ∧ (s.1 = -1000000 ∨ (s.2.2.2.1 = s'.2.2.2.1 ∧ s.2.2.2.2.1 = s'.2.2.2.2.1))
theorem sim_nf {s s' : SvT} {p : Nat → Int} {v : Int} (hv : -1000000 < v) (h : sim s s') : sim (nfS s p v) (nfS s' p v) := by
  obtain ⟨h1, h2, h3, h4⟩ := h
  unfold nfS
  rw [← h1]
  by_cases e : s.1 < v
  · rw [if_pos e, if_pos e]
    refine ⟨rfl, rfl, ?_, Or.inr ⟨rfl, rfl⟩⟩
    show s.2.2.1 + 1 = s'.2.2.1 + 1
    rw [h3]
  · rw [if_neg e, if_neg e]
    by_cases e2 : v = s.1
    · rw [if_pos e2, if_pos e2]
      rcases h4 with h4 | ⟨h4, h5⟩
      · omega
      · refine ⟨h1, ?_, ?_, Or.inr ⟨h4, ?_⟩⟩
        · show s.2.1 + 1 = s'.2.1 + 1
          rw [h2]
        · show s.2.2.1 + 1 = s'.2.2.1 + 1
          rw [h3]
        · show (fun t => if p t = s.2.2.2.1 t then s.2.2.2.2.1 t else 0) = (fun t => if p t = s'.2.2.2.1 t then s'.2.2.2.2.1 t else 0)
          rw [h4, h5]
    · rw [if_neg e2, if_neg e2]
      refine ⟨h1, h2, ?_, h4⟩
      show s.2.2.1 + 1 = s'.2.2.1 + 1
      rw [h3]
theorem sim_lk {b : Bk} {lim p : Nat → Int} {s s' : SvT} (hv : -1000000 < vlp b p) (h : sim s s') : sim (lkS b lim p s) (lkM b lim p s') := by
  unfold lkS lkM
  by_cases e : fo b lim p 0 (bM b) = -1000000
  · rw [if_pos e, if_pos e]; exact sim_nf hv h
  · rw [if_neg e, if_neg e]
    split
    · exact h
    · exact h
theorem bd_od2 {n : Nat} {lo hi : Nat → Int} (h0 : bd n lo) (hm : bd n hi) : ∀ (k : Nat) {p : Nat → Int}, k ≤ n → bd n p → bd n (od2 lo hi k p)
  | 0, p, _, h => h
  | k + 1, p, hk, h => by
    unfold od2
    have h1 := hm k (by omega)
    have h2 := h k (by omega)
    have h3 := h0 k (by omega)
    split
    · exact bd_od2 h0 hm k (by omega) (h.pu (by omega))
    · exact h.pu (by omega)
theorem sim_fdl {b : Bk} {lim lo hi : Nat → Int} (hB : BR b) (h0 : bd (bN b) lo) (h9 : bd (bN b) hi) : ∀ (k : Nat) (p : Nat → Int) (s s' : SvT), bd (bN b) p → sim s s' → sim (fdl lo hi (bN b) (lkS b lim) k p s) (fdl lo hi (bN b) (lkM b lim) k p s')
  | 0, p, s, s', hp, h => h
  | k + 1, p, s, s', hp, h => sim_fdl hB h0 h9 k _ _ _ (bd_od2 h0 h9 _ (Nat.le_refl _) hp) (sim_lk (by have := vl_bound hB hp; omega) h)

/-! the survey: what one walk through all plans tells -/
theorem pr_in {n : Nat} {ms : Nat → Int} (hm : bd n ms) : ∀ (k t a : Nat), t + k ≤ n → ∃ N : Nat, pr ms t k (a : Int) = (N : Int) ∧ N ≤ a * 10 ^ k ∧ (0 < a → 0 < N)
  | 0, t, a, h => ⟨a, rfl, by omega, fun h => h⟩
  | k + 1, t, a, h => by
    have h1 := hm t (by omega)
    obtain ⟨q, hq⟩ := Int.eq_ofNat_of_zero_le h1.1
    obtain ⟨N, e1, e2, e3⟩ := pr_in hm k (t + 1) (a * (q + 1)) (by omega)
    refine ⟨N, ?_, ?_, fun h0 => e3 (Nat.mul_pos h0 (by omega))⟩
    · show pr ms (t + 1) k ((a : Int) * (ms t + 1)) = N
      rw [hq, ← e1]
      rfl
    · have h2 : a * (q + 1) ≤ a * 10 := Nat.mul_le_mul_left a (by omega)
      have h3 : a * (q + 1) * 10 ^ k ≤ a * 10 * 10 ^ k := Nat.mul_le_mul_right _ h2
      have h4 : a * 10 * 10 ^ k = a * 10 ^ (k + 1) := by rw [Nat.pow_succ, Nat.mul_assoc, Nat.mul_comm 10 (10 ^ k)]
      omega
/-- greatest, how many best, how many fit, THE FIRST, fast, the greatest with a count, the greatest that a rule alone forbids -/
abbrev SvT : Type := Int × Int × Int × (Nat → Int) × (Nat → Int) × (Nat → Nat → Int) × (Nat → Int)
def svc (a : Nat) : Prop := ¬ (15 ≤ a ∧ a ≤ 19)
def swc (a : Nat) : Prop := ¬ (10 ≤ a ∧ a ≤ 19)
def SK (b : Bk) (Z : Nat → Nat → Int) (s : SvT) : Prop := Z 15 0 = (bN b : Nat) ∧ Z 15 4 = s.1 ∧ Z 15 3 = s.2.1 ∧ Z 15 2 = s.2.2.1 ∧ (∀ t, t < bN b → Z 16 t = s.2.2.2.1 t ∧ Z 17 t = s.2.2.2.2.1 t) ∧ (∀ t c, t < bN b → c < 10 → Z 18 (t * 10 + c) = s.2.2.2.2.2.1 t c) ∧ (∀ r, r < bM b → Z 19 r = s.2.2.2.2.2.2 r)
def SR (b : Bk) (s : SvT) : Prop := (s.1 = -1000000 ∨ (-4000 ≤ s.1 ∧ s.1 ≤ 4000 ∧ bd (bN b) s.2.2.2.1)) ∧ (∀ t c, t < bN b → c < 10 → -1000000 ≤ s.2.2.2.2.2.1 t c ∧ s.2.2.2.2.2.1 t c ≤ 4000) ∧ (∀ r, r < bM b → -1000000 ≤ s.2.2.2.2.2.2 r ∧ s.2.2.2.2.2.2 r ≤ 4000) ∧ (∀ t, t < bN b → s.1 = -1000000 ∨ s.2.2.2.2.1 t = 0 ∨ s.2.2.2.2.1 t = 1)
theorem WK.fr {b : Bk} {Z Z' : Nat → Nat → Int} {lim ms p : Nat → Int} (h : WK b Z lim ms p) (f : fr svc Z Z') : WK b Z' lim ms p := by
  obtain ⟨hX, h1, h2, h3⟩ := h
  refine ⟨hX.fr (f.mono (fun a ha => by unfold xbc at ha; unfold svc; omega)), fun t ht => ?_, fun r hr => ?_, ?_⟩
  · rw [f 12 (by unfold svc; omega), f 14 (by unfold svc; omega)]; exact h1 t ht
  · rw [f 11 (by unfold svc; omega), f 13 (by unfold svc; omega)]; exact h2 r hr
  · rw [f 10 (by unfold svc; omega)]; exact h3
theorem SK.fr {b : Bk} {Z Z' : Nat → Nat → Int} {s : SvT} (h : SK b Z s) (f : fr wkc Z Z') : SK b Z' s := by
  obtain ⟨h1, h2, h3, h4, h5, h6, h7⟩ := h
  have f15 : ∀ k, Z' 15 k = Z 15 k := f 15 (by unfold wkc; omega)
  refine ⟨by rw [f15]; exact h1, by rw [f15]; exact h2, by rw [f15]; exact h3, by rw [f15]; exact h4, fun t ht => ?_, fun t c ht hc => ?_, fun r hr => ?_⟩
  · rw [f 16 (by unfold wkc; omega), f 17 (by unfold wkc; omega)]; exact h5 t ht
  · rw [f 18 (by unfold wkc; omega)]; exact h6 t c ht hc
  · rw [f 19 (by unfold wkc; omega)]; exact h7 r hr
/-- a plan that fits is noted -/
def nbS (s : SvT) (p : Nat → Int) (v : Int) : SvT := (v, 1, s.2.2.1, p, (fun _ => 1), s.2.2.2.2.2.1, s.2.2.2.2.2.2)
def neS (s : SvT) (p : Nat → Int) : SvT := (s.1, s.2.1 + 1, s.2.2.1, s.2.2.2.1, (fun t => if p t = s.2.2.2.1 t then s.2.2.2.2.1 t else 0), s.2.2.2.2.2.1, s.2.2.2.2.2.2)
def nwS (s : SvT) (p : Nat → Int) (v : Int) : SvT := (s.1, s.2.1, s.2.2.1 + 1, s.2.2.2.1, s.2.2.2.2.1, (fun t c => if (c : Int) = p t then max (s.2.2.2.2.2.1 t c) v else s.2.2.2.2.2.1 t c), s.2.2.2.2.2.2)
def nfS (s : SvT) (p : Nat → Int) (v : Int) : SvT := if s.1 < v then nbS (nwS s p v) p v else if v = s.1 then neS (nwS s p v) p else nwS s p v
def fdS (s : SvT) (r : Nat) (v : Int) : SvT := (s.1, s.2.1, s.2.2.1, s.2.2.2.1, s.2.2.2.2.1, s.2.2.2.2.2.1, (fun q => if q = r then max (s.2.2.2.2.2.2 q) v else s.2.2.2.2.2.2 q))
def lkS (b : Bk) (lim p : Nat → Int) (s : SvT) : SvT := if fo b lim p 0 (bM b) = -1000000 then nfS s p (vlp b p) else if fo b lim p ((fo b lim p 0 (bM b)).toNat + 1) (bM b - ((fo b lim p 0 (bM b)).toNat + 1)) = -1000000 then fdS s (fo b lim p 0 (bM b)).toNat (vlp b p) else s
def laS (b : Bk) (lim ms : Nat → Int) : Nat → (Nat → Int) → SvT → SvT
  | 0, _, s => s
  | k + 1, p, s => laS b lim ms k (od ms (bN b) p) (lkS b lim p s)
theorem SR.nw {b : Bk} {s : SvT} {p : Nat → Int} {v : Int} (h : SR b s) (hv : -4000 ≤ v ∧ v ≤ 4000) : SR b (nwS s p v) := by
  refine ⟨h.1, fun t c ht hc => ?_, h.2.2.1, h.2.2.2⟩
  have := h.2.1 t c ht hc
  show -1000000 ≤ (if (c : Int) = p t then max (s.2.2.2.2.2.1 t c) v else s.2.2.2.2.2.1 t c) ∧ (if (c : Int) = p t then max (s.2.2.2.2.2.1 t c) v else s.2.2.2.2.2.1 t c) ≤ 4000
  split <;> omega
theorem SR.nf {b : Bk} {s : SvT} {p : Nat → Int} {v : Int} (h : SR b s) (hv : -4000 ≤ v ∧ v ≤ 4000) (hp : bd (bN b) p) : SR b (nfS s p v) := by
  have h1 := h.nw (p := p) hv
  unfold nfS
  split
  · exact ⟨Or.inr ⟨hv.1, hv.2, hp⟩, h1.2.1, h1.2.2.1, fun t ht => Or.inr (Or.inr rfl)⟩
  · split
    · refine ⟨h1.1, h1.2.1, h1.2.2.1, fun t ht => ?_⟩
      rcases h1.2.2.2 t ht with h2 | h2
      · exact Or.inl h2
      · right
        show (if p t = s.2.2.2.1 t then s.2.2.2.2.1 t else 0) = 0 ∨ (if p t = s.2.2.2.1 t then s.2.2.2.2.1 t else 0) = 1
        split
        · exact h2
        · exact Or.inl rfl
    · exact h1
theorem SR.fd {b : Bk} {s : SvT} {r : Nat} {v : Int} (h : SR b s) (hv : -4000 ≤ v ∧ v ≤ 4000) : SR b (fdS s r v) := by
  refine ⟨h.1, h.2.1, fun q hq => ?_, h.2.2.2⟩
  have := h.2.2.1 q hq
  show -1000000 ≤ (if q = r then max (s.2.2.2.2.2.2 q) v else s.2.2.2.2.2.2 q) ∧ (if q = r then max (s.2.2.2.2.2.2 q) v else s.2.2.2.2.2.2 q) ≤ 4000
  split <;> omega
theorem SR.lk {b : Bk} {s : SvT} {lim p : Nat → Int} (hB : BR b) (h : SR b s) (hp : bd (bN b) p) : SR b (lkS b lim p s) := by
  unfold lkS
  split
  · exact h.nf (vl_bound hB hp) hp
  · split
    · exact h.fd (vl_bound hB hp)
    · exact h
section SV
variable {d : Nat} {Z Y : Nat → Nat → Int} {S : Nat × (Nat → Int32)} {K : jj_Hp → Prop} {Ki : Int → jj_Hp → Prop} {Q : Option Value → jj_Hp → Prop} {b : Bk} {lim ms p : Nat → Int} {s : SvT}
theorem lJ7_fill {a : Nat} {v : Int} (ha : 0 < jj_il a) : ∀ (n k : Nat) (Z' : Nat → Nat → Int), k + n = jj_il a → fr (fun q => ¬ q = a) Z Z' → (∀ j, j < k → Z' a j = v) → (∀ Z'', fr (fun q => ¬ q = a) Z Z'' → (∀ j, j < jj_il a → Z'' a j = v) → Q none (jj_h Z'' Y S)) → jj_Ex d mJ7_fill_53178 5 [.ref a, iv v, iv (k : Int), iv ((jj_il a : Nat) : Int)] [] (jj_h Z' Y S) Q := by
  have hi := (jj_il_sh ha).2.2
  intro n
  induction n with
  | zero =>
    intro k Z' hk hf hv hQ
    exact bJ7_fill_53178_5 (by omega) (by omega) (fun h => bJ7_fill_53178_20 (hQ Z' hf (fun j hj => hv j (by omega)))) (fun h => by omega)
  | succ n ih =>
    intro k Z' hk hf hv hQ
    have e2 : ((k : Int)).toNat = k := by omega
    refine bJ7_fill_53178_5 (by omega) (by omega) (fun h => by omega) (fun h => bJ7_fill_53178_10 (by omega) (by omega) ?_)
    rw [e2]
    refine ih (k + 1) _ (by omega) (fun q hq j => by rw [zu_ne hq]; exact hf q hq j) (fun j hj => ?_) hQ
    by_cases e : j = k
    · subst e; rw [zu_at]
    · rw [zu_nk e]; exact hv j (by omega)
theorem kJ7_fill {a : Nat} {v : Int} (ha : 0 < jj_il a) (k : ∀ Z', fr (fun q => ¬ q = a) Z Z' → (∀ j, j < jj_il a → Z' a j = v) → K (jj_h Z' Y S)) : jj_Cv d mJ7_fill_53178 [.ref a, iv v] (jj_h Z Y S) K :=
  nJ7_fill_53178 (bJ7_fill_53178_0 (jj_il_sh ha).1 (lJ7_fill ha (jj_il a) 0 Z (by omega) fr.rf (fun j hj => by omega) (fun Z' f h => ⟨rfl, k Z' f h⟩)))
theorem lX2_noteBetter {v : Int} (hB : BR b) (hn : Z 15 0 = (bN b : Nat)) : ∀ (n k : Nat) (Z' : Nat → Nat → Int), k + n = bN b → fr (fun q => ¬ (q = 16 ∨ q = 17)) Z Z' → (∀ t, t < k → Z' 16 t = Z 14 t ∧ Z' 17 t = 1) → (∀ Z'', fr (fun q => ¬ (q = 16 ∨ q = 17)) Z Z'' → (∀ t, t < bN b → Z'' 16 t = Z 14 t ∧ Z'' 17 t = 1) → Q none (jj_h Z'' Y S)) → jj_Ex d mX2_noteBetter 12 [.ref 15, .ref 14, iv v, iv (k : Int)] [] (jj_h Z' Y S) Q := by
  have h4 := hB.1
  intro n
  induction n with
  | zero =>
    intro k Z' hk hf hv hQ
    have e15 : Z' 15 0 = (bN b : Nat) := (hf 15 (by omega) 0).trans hn
    exact bX2_noteBetter_12 (by omega) (by omega) (fun h => bX2_noteBetter_42 (hQ Z' hf (fun j hj => hv j (by omega)))) (fun h => by omega)
  | succ n ih =>
    intro k Z' hk hf hv hQ
    have e15 : Z' 15 0 = (bN b : Nat) := (hf 15 (by omega) 0).trans hn
    have e2 : ((k : Int)).toNat = k := by omega
    refine bX2_noteBetter_12 (by omega) (by omega) (fun h => by omega) (fun h => bX2_noteBetter_20 (by omega) (by omega) (by omega) (by omega) (by omega) (by omega) ?_)
    rw [e2, hf 14 (by omega) k]
    refine ih (k + 1) _ (by omega) (fun q hq j => by rw [zu_ne (by omega), zu_ne (by omega)]; exact hf q hq j) (fun t ht => ?_) hQ
    by_cases e : t = k
    · subst e; rw [zu_ne (show ¬ 16 = 17 by omega), zu_at, zu_at]; exact ⟨rfl, rfl⟩
    · rw [zu_ne (show ¬ 16 = 17 by omega), zu_nk e, zu_nk e, zu_ne (show ¬ 17 = 16 by omega)]; exact hv t (by omega)
theorem kX2_noteBetter {v : Int} (hB : BR b) (hW : WK b Z lim ms p) (hS : SK b Z s) (k : ∀ Z', fr svc Z Z' → Z' 15 1 = Z 15 1 → SK b Z' (nbS s p v) → K (jj_h Z' Y S)) : jj_Cv d mX2_noteBetter [.ref 15, .ref 14, iv v] (jj_h Z Y S) K := by
  obtain ⟨h1, h2, h3, h4, h5, h6, h7⟩ := id hS
  refine nX2_noteBetter (bX2_noteBetter_0 (lX2_noteBetter (Z := zu (zu Z 15 4 v) 15 3 1) hB (by rw [zu_nk (by omega), zu_nk (by omega)]; exact h1) (bN b) 0 _ (by omega) fr.rf (fun t ht => by omega) (fun Z' f h => ⟨rfl, k Z' (fun a ha j => ?_) (by rw [f 15 (by omega), zu_nk (by omega), zu_nk (by omega)]) ⟨?_, ?_, ?_, ?_, fun t ht => ?_, fun t c ht hc => ?_, fun r hr => ?_⟩⟩)))
  · unfold svc at ha
    rw [f a (by omega), zu_ne (by omega), zu_ne (by omega)]
  · rw [f 15 (by omega), zu_nk (by omega), zu_nk (by omega)]; exact h1
  · rw [f 15 (by omega), zu_nk (by omega), zu_at]; rfl
  · rw [f 15 (by omega), zu_at]; rfl
  · rw [f 15 (by omega), zu_nk (by omega), zu_nk (by omega)]; exact h4
  · rw [(h t ht).1, (h t ht).2, zu_ne (by omega), zu_ne (by omega), (hW.2.1 t ht).2]; exact ⟨rfl, rfl⟩
  · rw [f 18 (by omega), zu_ne (by omega), zu_ne (by omega)]; exact h6 t c ht hc
  · rw [f 19 (by omega), zu_ne (by omega), zu_ne (by omega)]; exact h7 r hr
theorem lX2_noteEqual (hB : BR b) (hn : Z 15 0 = (bN b : Nat)) (hr : ∀ t, t < bN b → i32 (Z 14 t) ∧ i32 (Z 16 t)) : ∀ (n k : Nat) (Z' : Nat → Nat → Int), k + n = bN b → fr (fun q => ¬ q = 17) Z Z' → (∀ t, t < k → Z' 17 t = if Z 14 t = Z 16 t then Z 17 t else 0) → (∀ t, k ≤ t → Z' 17 t = Z 17 t) → (∀ Z'', fr (fun q => ¬ q = 17) Z Z'' → (∀ t, t < bN b → Z'' 17 t = if Z 14 t = Z 16 t then Z 17 t else 0) → Q none (jj_h Z'' Y S)) → jj_Ex d mX2_noteEqual 12 [.ref 15, .ref 14, iv (k : Int)] [] (jj_h Z' Y S) Q := by
  have h4 := hB.1
  intro n
  induction n with
  | zero =>
    intro k Z' hk hf hv hw hQ
    have e15 : Z' 15 0 = (bN b : Nat) := (hf 15 (by omega) 0).trans hn
    exact bX2_noteEqual_12 (by omega) (by omega) (fun h => bX2_noteEqual_45 (hQ Z' hf (fun j hj => hv j (by omega)))) (fun h => by omega)
  | succ n ih =>
    intro k Z' hk hf hv hw hQ
    have e15 : Z' 15 0 = (bN b : Nat) := (hf 15 (by omega) 0).trans hn
    have e2 : ((k : Int)).toNat = k := by omega
    have hrk := hr k (by omega)
    refine bX2_noteEqual_12 (by omega) (by omega) (fun h => by omega) (fun h => bX2_noteEqual_20 (by omega) (by omega) (by omega) (by omega) (by rw [e2, hf 14 (by omega)]; exact hrk.1) (by rw [e2, hf 16 (by omega)]; exact hrk.2) (fun h => bX2_noteEqual_39 ?_) (fun h => bX2_noteEqual_32 (by omega) (by omega) ?_))
    · rw [e2, hf 14 (by omega), hf 16 (by omega)] at h
      refine ih (k + 1) _ (by omega) hf (fun t ht => ?_) (fun t ht => hw t (by omega)) hQ
      by_cases e : t = k
      · subst e; rw [if_pos h]; exact hw t (by omega)
      · exact hv t (by omega)
    · rw [e2, hf 14 (by omega), hf 16 (by omega)] at h
      rw [e2]
      refine ih (k + 1) _ (by omega) (fun q hq j => by rw [zu_ne hq]; exact hf q hq j) (fun t ht => ?_) (fun t ht => by rw [zu_nk (by omega)]; exact hw t (by omega)) hQ
      by_cases e : t = k
      · subst e; rw [if_neg h, zu_at]
      · rw [zu_nk e]; exact hv t (by omega)
theorem kX2_noteEqual (hB : BR b) (hp : bd (bN b) p) (hf : bd (bN b) s.2.2.2.1) (hW : WK b Z lim ms p) (hS : SK b Z s) (k : ∀ Z', fr svc Z Z' → Z' 15 1 = Z 15 1 → SK b Z' (neS s p) → K (jj_h Z' Y S)) : jj_Cv d mX2_noteEqual [.ref 15, .ref 14] (jj_h Z Y S) K := by
  obtain ⟨h1, h2, h3, h4, h5, h6, h7⟩ := id hS
  refine nX2_noteEqual (bX2_noteEqual_0 (lX2_noteEqual (Z := zu Z 15 3 (Z 15 3 + 1)) hB (by rw [zu_nk (by omega)]; exact h1) (fun t ht => ?_) (bN b) 0 _ (by omega) fr.rf (fun t ht => by omega) (fun t ht => rfl) (fun Z' f h => ⟨rfl, k Z' (fun a ha j => ?_) (by rw [f 15 (by omega), zu_nk (by omega)]) ⟨?_, ?_, ?_, ?_, fun t ht => ?_, fun t c ht hc => ?_, fun r hr => ?_⟩⟩)))
  · rw [zu_ne (by omega), zu_ne (by omega), (hW.2.1 t ht).2, (h5 t ht).1]
    have := hp t ht
    have := hf t ht
    omega
  · unfold svc at ha
    rw [f a (by omega), zu_ne (by omega)]
  · rw [f 15 (by omega), zu_nk (by omega)]; exact h1
  · rw [f 15 (by omega), zu_nk (by omega)]; exact h2
  · rw [f 15 (by omega), zu_at, h3]; rfl
  · rw [f 15 (by omega), zu_nk (by omega)]; exact h4
  · rw [f 16 (by omega), h t ht, zu_ne (by omega), zu_ne (by omega), zu_ne (by omega), (hW.2.1 t ht).2, (h5 t ht).1, (h5 t ht).2]; exact ⟨rfl, rfl⟩
  · rw [f 18 (by omega), zu_ne (by omega)]; exact h6 t c ht hc
  · rw [f 19 (by omega), zu_ne (by omega)]; exact h7 r hr
end SV

/-! determinants of at most four rows -/
def jd2 (a b c d : Int) : Int := a * d - b * c
def jd3 (a b c d e f g h i : Int) : Int := a * jd2 e f h i - b * jd2 d f g i + c * jd2 d e g h
def jd4 (a b c d e f g h i j k l m n o p : Int) : Int := a * jd3 f g h j k l n o p - b * jd3 e g h i k l m o p + c * jd3 e f h i j l m n p - d * jd3 e f g i j k m n o
def jdt (n : Nat) (A : Nat → Nat → Int) : Int := match n with
  | 0 => 1
  | 1 => A 0 0
  | 2 => jd2 (A 0 0) (A 0 1) (A 1 0) (A 1 1)
  | 3 => jd3 (A 0 0) (A 0 1) (A 0 2) (A 1 0) (A 1 1) (A 1 2) (A 2 0) (A 2 1) (A 2 2)
  | 4 => jd4 (A 0 0) (A 0 1) (A 0 2) (A 0 3) (A 1 0) (A 1 1) (A 1 2) (A 1 3) (A 2 0) (A 2 1) (A 2 2) (A 2 3) (A 3 0) (A 3 1) (A 3 2) (A 3 3)
  | _ => 0
def rr (A : Nat → Nat → Int) (i : Nat) (w : Nat → Int) : Nat → Nat → Int := fun r t => if r = i then w t else A r t
theorem le4 {n : Nat} (h : n ≤ 4) : n = 0 ∨ n = 1 ∨ n = 2 ∨ n = 3 ∨ n = 4 := by omega
theorem lt1 {t : Nat} (h : t < 1) : t = 0 := by omega
theorem lt2 {t : Nat} (h : t < 2) : t = 0 ∨ t = 1 := by omega
theorem lt3 {t : Nat} (h : t < 3) : t = 0 ∨ t = 1 ∨ t = 2 := by omega
theorem lt4 {t : Nat} (h : t < 4) : t = 0 ∨ t = 1 ∨ t = 2 ∨ t = 3 := by omega
set_option maxHeartbeats 4000000 in
theorem cramer {n : Nat} (hn : n ≤ 4) (A : Nat → Nat → Int) (w : Nat → Int) {t : Nat} (ht : t < n) : sf (fun i => jdt n (rr A i w) * A i t) 0 n = jdt n A * w t := by
  rcases le4 hn with rfl | rfl | rfl | rfl | rfl
  · omega
  · cases lt1 ht
    simp [sf, jdt, rr]; grind
  · rcases lt2 ht with rfl | rfl <;> (simp [sf, jdt, rr, jd2]; grind)
  · rcases lt3 ht with rfl | rfl | rfl <;> (simp [sf, jdt, rr, jd3, jd2]; grind)
  · rcases lt4 ht with rfl | rfl | rfl | rfl <;> (simp [sf, jdt, rr, jd4, jd3, jd2]; grind)
set_option maxHeartbeats 4000000 in
theorem jdt_lin {n : Nat} (hn : n ≤ 4) (A : Nat → Nat → Int) (x : Nat → Int) {i : Nat} (hi : i < n) : jdt n (rr A i (fun t => sf (fun j => x j * A j t) 0 n)) = x i * jdt n A := by
  rcases le4 hn with rfl | rfl | rfl | rfl | rfl
  · omega
  · cases lt1 hi
    simp [sf, jdt, rr]
  · rcases lt2 hi with rfl | rfl <;> (simp [sf, jdt, rr, jd2]; grind)
  · rcases lt3 hi with rfl | rfl | rfl <;> (simp [sf, jdt, rr, jd3, jd2]; grind)
  · rcases lt4 hi with rfl | rfl | rfl | rfl <;> (simp [sf, jdt, rr, jd4, jd3, jd2]; grind)
set_option maxHeartbeats 4000000 in
theorem jdt_hom {n : Nat} (hn : n ≤ 4) (A : Nat → Nat → Int) (w : Nat → Int) (d : Int) {i : Nat} (hi : i < n) : jdt n (rr A i (fun t => d * w t)) = d * jdt n (rr A i w) := by
  rcases le4 hn with rfl | rfl | rfl | rfl | rfl
  · omega
  · cases lt1 hi
    simp [jdt, rr]
  · rcases lt2 hi with rfl | rfl <;> (simp [jdt, rr, jd2]; grind)
  · rcases lt3 hi with rfl | rfl | rfl <;> (simp [jdt, rr, jd3, jd2]; grind)
  · rcases lt4 hi with rfl | rfl | rfl | rfl <;> (simp [jdt, rr, jd4, jd3, jd2]; grind)
theorem jdt_congr {n : Nat} {A B : Nat → Nat → Int} (h : ∀ i t, i < n → t < n → A i t = B i t) : jdt n A = jdt n B := by
  by_cases hn : n ≤ 4
  · rcases le4 hn with rfl | rfl | rfl | rfl | rfl
    · rfl
    · exact h 0 0 (by omega) (by omega)
    · unfold jdt; simp only [h 0 0 (by omega) (by omega), h 0 1 (by omega) (by omega), h 1 0 (by omega) (by omega), h 1 1 (by omega) (by omega)]
    · unfold jdt; simp only [h 0 0 (by omega) (by omega), h 0 1 (by omega) (by omega), h 0 2 (by omega) (by omega), h 1 0 (by omega) (by omega), h 1 1 (by omega) (by omega), h 1 2 (by omega) (by omega), h 2 0 (by omega) (by omega), h 2 1 (by omega) (by omega), h 2 2 (by omega) (by omega)]
    · unfold jdt; simp only [h 0 0 (by omega) (by omega), h 0 1 (by omega) (by omega), h 0 2 (by omega) (by omega), h 0 3 (by omega) (by omega), h 1 0 (by omega) (by omega), h 1 1 (by omega) (by omega), h 1 2 (by omega) (by omega), h 1 3 (by omega) (by omega), h 2 0 (by omega) (by omega), h 2 1 (by omega) (by omega), h 2 2 (by omega) (by omega), h 2 3 (by omega) (by omega), h 3 0 (by omega) (by omega), h 3 1 (by omega) (by omega), h 3 2 (by omega) (by omega), h 3 3 (by omega) (by omega)]
  · unfold jdt
    split <;> first | omega | rfl
set_option maxHeartbeats 4000000 in
theorem jdt_tr (n : Nat) (A : Nat → Nat → Int) : jdt n (fun i t => A t i) = jdt n A := by
  by_cases hn : n ≤ 4
  · rcases le4 hn with rfl | rfl | rfl | rfl | rfl
    · rfl
    · rfl
    · simp [jdt, jd2]; grind
    · simp [jdt, jd3, jd2]; grind
    · simp [jdt, jd4, jd3, jd2]; grind
  · unfold jdt
    split <;> first | omega | rfl
/-- one row that stands for one column alone -/
theorem jdt_unit {n : Nat} (hn : n ≤ 3) {A : Nat → Nat → Int} {p : Nat} {s : Int} (hp : p < n + 1) (h : ∀ t, t < n + 1 → A 0 t = if t = p then s else 0) : jdt (n + 1) A = s * (if p % 2 = 0 then 1 else -1) * jdt n (fun i j => A (i + 1) (if j < p then j else j + 1)) := by
  have h0 := h 0 (by omega)
  rcases le4 (show n ≤ 4 by omega) with rfl | rfl | rfl | rfl | rfl
  · cases lt1 hp
    simp [jdt, h0]
  · have h1 := h 1 (by omega)
    rcases lt2 hp with rfl | rfl <;> (simp at h0 h1; simp [jdt, jd2, h0, h1, Int.neg_mul])
  · have h1 := h 1 (by omega)
    have h2 := h 2 (by omega)
    rcases lt3 hp with rfl | rfl | rfl <;> (simp at h0 h1 h2; simp [jdt, jd3, jd2, h0, h1, h2, Int.neg_mul])
  · have h1 := h 1 (by omega)
    have h2 := h 2 (by omega)
    have h3 := h 3 (by omega)
    rcases lt4 hp with rfl | rfl | rfl | rfl <;> (simp at h0 h1 h2 h3; simp [jdt, jd4, jd3, jd2, h0, h1, h2, h3, Int.neg_mul])
  · omega
theorem jdt_zero {n : Nat} (hn : n ≤ 3) {A : Nat → Nat → Int} (h : ∀ t, t < n + 1 → A 0 t = 0) : jdt (n + 1) A = 0 := by
  have := jdt_unit (A := A) (p := 0) (s := 0) hn (by omega) (fun t ht => by rw [h t ht]; split <;> rfl)
  rw [this, Int.zero_mul, Int.zero_mul]
def sw (A : Nat → Nat → Int) (k p : Nat) : Nat → Nat → Int := fun i t => if i = k then A p t else if i = p then A k t else A i t
set_option maxHeartbeats 4000000 in
theorem jdt_sw {n : Nat} (hn : n ≤ 4) (A : Nat → Nat → Int) {k p : Nat} (hk : k < p) (hp : p < n) : jdt n (sw A k p) = - jdt n A := by
  rcases le4 hn with rfl | rfl | rfl | rfl | rfl
  · omega
  · omega
  · have : k = 0 ∧ p = 1 := by omega
    obtain ⟨rfl, rfl⟩ := this
    simp [jdt, sw, jd2]; grind
  · have : (k = 0 ∧ p = 1) ∨ (k = 0 ∧ p = 2) ∨ (k = 1 ∧ p = 2) := by omega
    rcases this with ⟨rfl, rfl⟩ | ⟨rfl, rfl⟩ | ⟨rfl, rfl⟩ <;> (simp [jdt, sw, jd3, jd2]; grind)
  · have : (k = 0 ∧ p = 1) ∨ (k = 0 ∧ p = 2) ∨ (k = 0 ∧ p = 3) ∨ (k = 1 ∧ p = 2) ∨ (k = 1 ∧ p = 3) ∨ (k = 2 ∧ p = 3) := by omega
    rcases this with ⟨rfl, rfl⟩ | ⟨rfl, rfl⟩ | ⟨rfl, rfl⟩ | ⟨rfl, rfl⟩ | ⟨rfl, rfl⟩ | ⟨rfl, rfl⟩ <;> (simp [jdt, sw, jd4, jd3, jd2]; grind)
/-- the minor of the first k rows and columns and one more of each -/
def mn (k : Nat) (A : Nat → Nat → Int) (i t : Nat) : Int := jdt (k + 1) (fun r c => A (if r < k then r else i) (if c < k then c else t))
theorem mn_0 (A : Nat → Nat → Int) (i t : Nat) : mn 0 A i t = A i t := rfl
theorem mn_top (k : Nat) (A : Nat → Nat → Int) : mn k A k k = jdt (k + 1) A := by
  refine jdt_congr (fun i t hi ht => ?_)
  show A (if i < k then i else k) (if t < k then t else k) = A i t
  by_cases e : i < k
  · rw [if_pos e]
    by_cases e2 : t < k
    · rw [if_pos e2]
    · rw [if_neg e2, show t = k by omega]
  · rw [if_neg e, show i = k by omega]
    by_cases e2 : t < k
    · rw [if_pos e2]
    · rw [if_neg e2, show t = k by omega]
set_option maxHeartbeats 4000000 in
theorem syl {k : Nat} (hk : k ≤ 2) (A : Nat → Nat → Int) (i t : Nat) : mn k A i t * mn k A k k - mn k A i k * mn k A k t = jdt k A * mn (k + 1) A i t := by
  have : k = 0 ∨ k = 1 ∨ k = 2 := by omega
  rcases this with rfl | rfl | rfl
  · simp [mn, jdt, jd2]; grind
  · simp [mn, jdt, jd3, jd2]; grind
  · simp [mn, jdt, jd4, jd3, jd2]; grind
theorem mul_z {a b : Int} (ha : a ≠ 0) (h : a * b = 0) : b = 0 := by
  rcases Int.mul_eq_zero.1 h with h | h
  · exact absurd h ha
  · exact h
set_option maxHeartbeats 4000000 in
/-- a column with nothing left: no determinant -/
theorem jdt_col0 {n k : Nat} (hn : n ≤ 4) (hk : k < n) {A : Nat → Nat → Int} (h0 : jdt k A ≠ 0) (h : ∀ p, k ≤ p → p < n → mn k A p k = 0) : jdt n A = 0 := by
  by_cases e1 : k + 1 = n
  · subst e1
    rw [← mn_top]; exact h k (by omega) (by omega)
  by_cases e2 : k + 2 = n
  · subst e2
    have a := h k (by omega) (by omega)
    have b := h (k + 1) (by omega) (by omega)
    have c := syl (show k ≤ 2 by omega) A (k + 1) (k + 1)
    rw [a, b, mn_top, Int.mul_zero, Int.zero_mul] at c
    exact mul_z h0 (c.symm.trans (Int.sub_self 0))
  have : (n = 3 ∧ k = 0) ∨ (n = 4 ∧ k = 0) ∨ (n = 4 ∧ k = 1) := by omega
  rcases this with ⟨rfl, rfl⟩ | ⟨rfl, rfl⟩ | ⟨rfl, rfl⟩
  · have a0 := h 0 (by omega) (by omega)
    have a1 := h 1 (by omega) (by omega)
    have a2 := h 2 (by omega) (by omega)
    rw [mn_0] at a0 a1 a2
    simp [jdt, jd3, jd2, a0, a1, a2]
  · have a0 := h 0 (by omega) (by omega)
    have a1 := h 1 (by omega) (by omega)
    have a2 := h 2 (by omega) (by omega)
    have a3 := h 3 (by omega) (by omega)
    rw [mn_0] at a0 a1 a2 a3
    simp [jdt, jd4, jd3, jd2, a0, a1, a2, a3]
  · have a1 := h 1 (by omega) (by omega)
    have a2 := h 2 (by omega) (by omega)
    have a3 := h 3 (by omega) (by omega)
    have id : jdt 1 A * (jdt 1 A * jdt 4 A) = jd3 (mn 1 A 1 1) (mn 1 A 1 2) (mn 1 A 1 3) (mn 1 A 2 1) (mn 1 A 2 2) (mn 1 A 2 3) (mn 1 A 3 1) (mn 1 A 3 2) (mn 1 A 3 3) := by
      simp [mn, jdt, jd4, jd3, jd2]; grind
    rw [a1, a2, a3] at id
    refine mul_z h0 (mul_z h0 ?_)
    rw [id]
    simp [jd3, jd2]
/-! how large they are -/
def bdd (x c : Int) : Prop := -c ≤ x ∧ x ≤ c
theorem bdd.nn {x c : Int} (h : bdd x c) : 0 ≤ c := by unfold bdd at h; omega
theorem bdd.mul {x y c e : Int} (hx : bdd x c) (hy : bdd y e) : bdd (x * y) (c * e) := by
  have hc := hx.nn
  have he := hy.nn
  unfold bdd at *
  by_cases h : 0 ≤ x
  · exact mul_bound (by omega) hy he
  · have := mul_bound (x := -x) (y := y) (cx := c) (cy := e) (by omega) hy he
    rw [Int.neg_mul] at this
    omega
theorem bdd.mono {x c e : Int} (h : bdd x c) (hc : c ≤ e) : bdd x e := by unfold bdd at *; omega
theorem jd2_b {a b c d a' b' c' d' : Int} (ha : bdd a a') (hb : bdd b b') (hc : bdd c c') (hd : bdd d d') : bdd (jd2 a b c d) (a' * d' + b' * c') := by
  have h1 := ha.mul hd
  have h2 := hb.mul hc
  unfold bdd jd2 at *
  omega
theorem jd3_b {a b c d e f g h i a' b' c' d' e' f' g' h' i' : Int} (ha : bdd a a') (hb : bdd b b') (hc : bdd c c') (hd : bdd d d') (he : bdd e e') (hf : bdd f f') (hg : bdd g g') (hh : bdd h h') (hi : bdd i i') : bdd (jd3 a b c d e f g h i) (a' * (e' * i' + f' * h') + b' * (d' * i' + f' * g') + c' * (d' * h' + e' * g')) := by
  have h1 := ha.mul (jd2_b he hf hh hi)
  have h2 := hb.mul (jd2_b hd hf hg hi)
  have h3 := hc.mul (jd2_b hd he hg hh)
  unfold jd3
  unfold bdd at *
  omega

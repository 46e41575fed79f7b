theorem ih_ltne {a b : Int} (h : a ≤ b) (hn : a ≠ b) : a < b := by omega
theorem ih_id1 (l b t r q : ih_V) : (ih_L l t - ih_L l b) * ih_T t r q = (ih_L l r - ih_L l t) * ih_T b t q + (ih_L l t - ih_L l q) * ih_T b t r := by
  simp only [ih_T, ih_L]
  grind
theorem ih_id2 (l b t r q : ih_V) : (ih_L l r - ih_L l t) * ih_T b r q = (ih_L l r - ih_L l b) * ih_T t r q - (ih_L l r - ih_L l q) * ih_T b t r := by
  simp only [ih_T, ih_L]
  grind
theorem ih_id3 (l b t r q : ih_V) : (ih_L l t - ih_L l b) * ih_T b r q = (ih_L l r - ih_L l b) * ih_T b t q - (ih_L l q - ih_L l b) * ih_T b t r := by
  simp only [ih_T, ih_L]
  grind
theorem ih_id4 (l a b c r : ih_V) : (ih_L l c - ih_L l b) * ih_T a b r = (ih_L l r - ih_L l b) * ih_T a b c + (ih_L l b - ih_L l a) * ih_T b c r := by
  simp only [ih_T, ih_L]
  grind
theorem ih_id5 (l a b c s : ih_V) : (ih_L l s - ih_L l b) * ih_T s a c = (ih_L l s - ih_L l c) * ih_T s a b + (ih_L l s - ih_L l a) * ih_T s b c := by
  simp only [ih_T, ih_L]
  grind
theorem ih_cyc (a b s : ih_V) : ih_T s a b = ih_T a b s := by
  simp only [ih_T]
  grind
theorem ih_flip (a b s : ih_V) : ih_T b a s = - ih_T a b s := by
  simp only [ih_T]
  grind
theorem ih_swap (a b s : ih_V) : ih_T a s b = - ih_T a b s := by
  simp only [ih_T]
  grind
theorem ih_T0 (a b : ih_V) : ih_T a b a = 0 := by
  simp only [ih_T]
  grind
theorem ih_T1 (a b : ih_V) : ih_T a b b = 0 := by
  simp only [ih_T]
  grind
theorem ih_T2 (a b : ih_V) : ih_T a a b = 0 := by
  simp only [ih_T]
  grind
theorem ih_co1 (l a b s : ih_V) : (ih_L l b - ih_L l a) * (s.1 - a.1) = (ih_L l s - ih_L l a) * (b.1 - a.1) - l.2 * ih_T a b s := by
  simp only [ih_T, ih_L]
  grind
theorem ih_co2 (l a b s : ih_V) : (ih_L l b - ih_L l a) * (s.2 - a.2) = (ih_L l s - ih_L l a) * (b.2 - a.2) + l.1 * ih_T a b s := by
  simp only [ih_T, ih_L]
  grind
theorem ih_nn {k t : Int} (hk : 0 < k) (h : 0 ≤ k * t) : 0 ≤ t := by
  apply Int.not_lt.mp
  intro ht
  have := Int.mul_pos hk (show 0 < -t by omega)
  rw [Int.mul_neg] at this
  omega
theorem ih_pp {k t : Int} (hk : 0 < k) (h : 0 < k * t) : 0 < t := by
  apply Int.not_le.mp
  intro ht
  have := Int.mul_nonneg (Int.le_of_lt hk) (show 0 ≤ -t by omega)
  rw [Int.mul_neg] at this
  omega
theorem ih_z0 {k t : Int} (hk : 0 < k) (h : k * t = 0) : t = 0 := by
  rcases Int.mul_eq_zero.mp h with e | e
  · omega
  · exact e
theorem ih_dsq (k t a b u v : Int) (hk : k * u = t * a) (hv : k * v = t * b) : k * k * (u * u + v * v) = t * t * (a * a + b * b) := by
  have e1 : (k * u) * (k * u) = (t * a) * (t * a) := by rw [hk]
  have e2 : (k * v) * (k * v) = (t * b) * (t * b) := by rw [hv]
  grind
/-- on the line, between the ends: not farther; as far only at the end -/
theorem ih_col {l a b s : ih_V} (hl : ih_L l a < ih_L l b) (h0 : ih_T a b s = 0) (h1 : ih_L l a ≤ ih_L l s) (h2 : ih_L l s ≤ ih_L l b) : ih_D a s ≤ ih_D a b ∧ (s ≠ b → ih_D a s < ih_D a b) := by
  have c1 := ih_co1 l a b s
  have c2 := ih_co2 l a b s
  rw [h0, Int.mul_zero] at c1 c2
  generalize hk : ih_L l b - ih_L l a = k at c1 c2
  generalize ht : ih_L l s - ih_L l a = t at c1 c2
  have k0 : 0 < k := by omega
  have t0 : 0 ≤ t := by omega
  have tk : t ≤ k := by omega
  have e := ih_dsq k t (b.1 - a.1) (b.2 - a.2) (s.1 - a.1) (s.2 - a.2) (by omega) (by omega)
  have eD : k * k * ih_D a s = t * t * ih_D a b := e
  have d0 : 0 ≤ ih_D a b := by
    have q1 : 0 ≤ (b.1 - a.1) * (b.1 - a.1) := by
      rcases Int.le_total 0 (b.1 - a.1) with z | z
      · exact Int.mul_nonneg z z
      · exact Int.mul_nonneg_of_nonpos_of_nonpos z z
    have q2 : 0 ≤ (b.2 - a.2) * (b.2 - a.2) := by
      rcases Int.le_total 0 (b.2 - a.2) with z | z
      · exact Int.mul_nonneg z z
      · exact Int.mul_nonneg_of_nonpos_of_nonpos z z
    unfold ih_D
    omega
  have kk : 0 < k * k := Int.mul_pos k0 k0
  have idd : k * k * (ih_D a b - ih_D a s) = (k - t) * (k + t) * ih_D a b := by
    have : k * k * (ih_D a b - ih_D a s) = k * k * ih_D a b - t * t * ih_D a b := by rw [Int.mul_sub, eD]
    rw [this]
    grind
  have p1 : 0 ≤ (k - t) * (k + t) := Int.mul_nonneg (by omega) (by omega)
  refine ⟨?_, ?_⟩
  · have := ih_nn kk (by rw [idd]; exact Int.mul_nonneg p1 d0)
    omega
  · intro hne
    have tk' : t < k := by
      apply ih_ltne tk
      intro e'
      apply hne
      have f1 : s.1 - a.1 = b.1 - a.1 := by
        apply Int.eq_of_mul_eq_mul_left (show k ≠ 0 by omega)
        rw [e'] at c1
        omega
      have f2 : s.2 - a.2 = b.2 - a.2 := by
        apply Int.eq_of_mul_eq_mul_left (show k ≠ 0 by omega)
        rw [e'] at c2
        omega
      exact Prod.ext (by omega) (by omega)
    have d1 : 0 < ih_D a b := by
      apply ih_ltne d0
      intro e0
      have q1 : 0 ≤ (b.1 - a.1) * (b.1 - a.1) := by
        rcases Int.le_total 0 (b.1 - a.1) with z | z
        · exact Int.mul_nonneg z z
        · exact Int.mul_nonneg_of_nonpos_of_nonpos z z
      have q2 : 0 ≤ (b.2 - a.2) * (b.2 - a.2) := by
        rcases Int.le_total 0 (b.2 - a.2) with z | z
        · exact Int.mul_nonneg z z
        · exact Int.mul_nonneg_of_nonpos_of_nonpos z z
      have e0' : (b.1 - a.1) * (b.1 - a.1) + (b.2 - a.2) * (b.2 - a.2) = 0 := e0.symm
      have z1 : (b.1 - a.1) * (b.1 - a.1) = 0 := by omega
      have z2 : (b.2 - a.2) * (b.2 - a.2) = 0 := by omega
      have w1 : b.1 - a.1 = 0 := by rcases Int.mul_eq_zero.mp z1 with z | z <;> exact z
      have w2 : b.2 - a.2 = 0 := by rcases Int.mul_eq_zero.mp z2 with z | z <;> exact z
      have g1 : b.1 = a.1 := by omega
      have g2 : b.2 = a.2 := by omega
      unfold ih_L at hl
      rw [g1, g2] at hl
      omega
    have := ih_pp kk (by rw [idd]; exact Int.mul_pos (Int.mul_pos (by omega) (by omega)) d1)
    omega
/-- an edge that has the points S on its left, and on its line only between its ends -/
def ih_Pair (l : ih_V) (S : ih_V → Prop) (a b : ih_V) : Prop :=
  ih_L l a < ih_L l b ∧ ∀ q, S q → 0 ≤ ih_T a b q ∧ (ih_T a b q = 0 → ih_L l a ≤ ih_L l q ∧ ih_L l q ≤ ih_L l b)
def ih_E (S : ih_V → Prop) (a b : ih_V) : Prop := ∃ l, ih_Pair l S a b
theorem ih_Ene {S : ih_V → Prop} {a b : ih_V} (h : ih_E S a b) : a ≠ b := by
  obtain ⟨l, h1, _⟩ := h
  intro e
  rw [e] at h1
  omega
/-- the walk keeps b once it has it -/
theorem ih_keep {S : ih_V → Prop} {a b q : ih_V} (h : ih_E S a b) (hq : S q) : ¬ ih_T a b q < 0 ∧ (ih_T a b q = 0 → ih_D a q ≤ ih_D a b) := by
  obtain ⟨l, h1, h2⟩ := h
  obtain ⟨h3, h4⟩ := h2 q hq
  exact ⟨by omega, fun e => (ih_col h1 e (h4 e).1 (h4 e).2).1⟩
/-- the walk takes b when it meets it -/
theorem ih_take {S : ih_V → Prop} {a b q : ih_V} (h : ih_E S a b) (hq : S q) (hn : q ≠ b) : ih_T a q b < 0 ∨ (ih_T a q b = 0 ∧ ih_D a q < ih_D a b) := by
  obtain ⟨l, h1, h2⟩ := h
  obtain ⟨h3, h4⟩ := h2 q hq
  rw [ih_swap]
  by_cases e : ih_T a b q = 0
  · exact Or.inr ⟨by omega, (ih_col h1 e (h4 e).1 (h4 e).2).2 hn⟩
  · exact Or.inl (by omega)
/-- two edges there and back: all on the line -/
theorem ih_two {S : ih_V → Prop} {a b q : ih_V} (h : ih_E S a b) (h' : ih_E S b a) (hq : S q) : ih_T a b q = 0 := by
  obtain ⟨l, _, h2⟩ := h
  obtain ⟨l', _, h2'⟩ := h'
  have := (h2 q hq).1
  have := (h2' q hq).1
  rw [ih_flip] at this
  omega
/-- the corners in one open half plane seen from s: their angles rise -/
theorem ih_rise {f s : ih_V} {p : Nat → ih_V} {c j : Nat} (hf : ∀ i, i < c → ih_L f (p i) < ih_L f s) (hT : ∀ i, i + 1 < c → 0 ≤ ih_T (p i) (p (i + 1)) s) : ∀ d, j + d < c → 0 ≤ ih_T s (p j) (p (j + d)) := by
  intro d
  induction d with
  | zero =>
    intro _
    show 0 ≤ ih_T s (p j) (p j)
    have := ih_T1 s (p j)
    omega
  | succ d ih =>
    intro h
    have a1 := ih (by omega)
    have a2 := hT (j + d) (by omega)
    rw [← ih_cyc] at a2
    have e := ih_id5 f (p j) (p (j + d)) (p (j + d + 1)) s
    have f1 := hf j (by omega)
    have f2 := hf (j + d) (by omega)
    have f3 := hf (j + d + 1) (by omega)
    have m1 := Int.mul_nonneg (show 0 ≤ ih_L f s - ih_L f (p (j + d + 1)) by omega) a1
    have m2 := Int.mul_nonneg (show 0 ≤ ih_L f s - ih_L f (p j) by omega) a2
    exact ih_nn (show 0 < ih_L f s - ih_L f (p (j + d)) by omega) (by rw [show j + (d + 1) = j + d + 1 from rfl, e]; omega)
/-- a linear form takes its greatest value over the points at a corner -/
theorem ih_most {S : ih_V → Prop} {p : Nat → ih_V} {c : Nat} (hc : 2 ≤ c) (hE : ∀ i, i + 1 < c → ih_E S (p i) (p (i + 1))) (hZ : ih_E S (p (c - 1)) (p 0)) {f s : ih_V} (hs : S s) : ∃ i, i < c ∧ ih_L f s ≤ ih_L f (p i) := by
  apply Classical.byContradiction
  intro hno
  have hf : ∀ i, i < c → ih_L f (p i) < ih_L f s := fun i hi => Int.not_le.mp (fun z => hno ⟨i, hi, z⟩)
  have hT : ∀ i, i + 1 < c → 0 ≤ ih_T (p i) (p (i + 1)) s := fun i hi => by
    obtain ⟨l, _, h⟩ := hE i hi
    exact (h s hs).1
  have z1 : 0 ≤ ih_T (p (c - 1)) (p 0) s := by
    obtain ⟨l, _, h⟩ := hZ
    exact (h s hs).1
  rw [← ih_cyc] at z1
  have r0 := ih_rise (j := 0) hf hT (c - 1) (by omega)
  have r1 := ih_rise (j := 1) hf hT (c - 2) (by omega)
  rw [show 0 + (c - 1) = c - 1 by omega] at r0
  rw [show 1 + (c - 2) = c - 1 by omega] at r1
  have e0 : ih_T s (p 0) (p (c - 1)) = 0 := by
    rw [ih_swap] at z1
    omega
  have e5 := ih_id5 f (p 0) (p 1) (p (c - 1)) s
  rw [e0, Int.mul_zero] at e5
  have g0 := hT 0 (by omega)
  rw [← ih_cyc] at g0
  have f0 := hf 0 (by omega)
  have f1 := hf 1 (by omega)
  have fc := hf (c - 1) (by omega)
  have m1 := Int.mul_nonneg (show 0 ≤ ih_L f s - ih_L f (p (c - 1)) by omega) g0
  have m2 := Int.mul_nonneg (show 0 ≤ ih_L f s - ih_L f (p 0) by omega) r1
  have e1 : ih_T s (p 0) (p (0 + 1)) = 0 := ih_z0 (k := ih_L f s - ih_L f (p (c - 1))) (by omega) (by
    have : (0 : Nat) + 1 = 1 := rfl
    rw [this] at m1 ⊢
    omega)
  rw [ih_cyc] at e1
  obtain ⟨l, hl, h⟩ := hE 0 (by omega)
  obtain ⟨b1, b2⟩ := (h s hs).2 e1
  have c1 := ih_co1 l (p 0) (p (0 + 1)) s
  have c2 := ih_co2 l (p 0) (p (0 + 1)) s
  rw [e1, Int.mul_zero] at c1 c2
  have f1' : ih_L f (p (0 + 1)) < ih_L f s := f1
  generalize hk : ih_L l (p (0 + 1)) - ih_L l (p 0) = k at c1 c2
  generalize ht : ih_L l s - ih_L l (p 0) = t at c1 c2
  have q : k * (ih_L f s - ih_L f (p 0)) = t * (ih_L f (p (0 + 1)) - ih_L f (p 0)) := by
    unfold ih_L
    grind
  have s1 : 0 < k * (ih_L f s - ih_L f (p 0)) := Int.mul_pos (by omega) (by omega)
  have s2 : 0 < k * (ih_L f s - ih_L f (p (0 + 1))) := Int.mul_pos (by omega) (by omega)
  have s3 : 0 ≤ (k - t) * (ih_L f s - ih_L f (p 0)) := Int.mul_nonneg (by omega) (by omega)
  have s4 : 0 ≤ t * (ih_L f s - ih_L f (p (0 + 1))) := Int.mul_nonneg (by omega) (by omega)
  have s5 : (k - t) * (ih_L f s - ih_L f (p 0)) + t * (ih_L f s - ih_L f (p (0 + 1))) = 0 := by
    have : (k - t) * (ih_L f s - ih_L f (p 0)) + t * (ih_L f s - ih_L f (p (0 + 1))) = k * (ih_L f s - ih_L f (p 0)) - t * (ih_L f (p (0 + 1)) - ih_L f (p 0)) := by grind
    rw [this, q]
    omega
  have s6 : (k - t) * (ih_L f s - ih_L f (p 0)) = 0 := by omega
  have s7 : t * (ih_L f s - ih_L f (p (0 + 1))) = 0 := by omega
  rcases Int.mul_eq_zero.mp s6 with z | z
  · have : t = k := by omega
    rw [this] at s7
    omega
  · omega

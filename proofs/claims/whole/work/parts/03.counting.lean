/-- how many i below j have P i -/
noncomputable def ih_cn (P : Nat → Prop) : Nat → Nat
  | 0 => 0
  | j + 1 => ih_cn P j + (@ite Nat (P j) (Classical.propDecidable _) 1 0)
theorem ih_cs {P : Nat → Prop} {j : Nat} (h : P j) : ih_cn P (j + 1) = ih_cn P j + 1 := by
  simp only [ih_cn, if_pos h]
theorem ih_cf {P : Nat → Prop} {j : Nat} (h : ¬ P j) : ih_cn P (j + 1) = ih_cn P j := by
  simp only [ih_cn, if_neg h, Nat.add_zero]
theorem ih_c1 (P : Nat → Prop) (j : Nat) : ih_cn P j ≤ ih_cn P (j + 1) ∧ ih_cn P (j + 1) ≤ ih_cn P j + 1 := by
  by_cases h : P j
  · rw [ih_cs h]; omega
  · rw [ih_cf h]; omega
theorem ih_cle (P : Nat → Prop) : ∀ j, ih_cn P j ≤ j := by
  intro j
  induction j with
  | zero => exact Nat.le_refl 0
  | succ j ih => have := ih_c1 P j; omega
theorem ih_cmono (P : Nat → Prop) {i : Nat} : ∀ j, i ≤ j → ih_cn P i ≤ ih_cn P j := by
  intro j
  induction j with
  | zero => intro h; rw [show i = 0 by omega]; exact Nat.le_refl _
  | succ j ih =>
    intro h
    by_cases e : i = j + 1
    · rw [e]; exact Nat.le_refl _
    · have := ih (by omega)
      have := ih_c1 P j
      omega
theorem ih_clt {P : Nat → Prop} {i j : Nat} (h : P i) (hj : i < j) : ih_cn P i < ih_cn P j := by
  have := ih_cmono P (i := i + 1) j (by omega)
  rw [ih_cs h] at this
  omega
theorem ih_cex {P : Nat → Prop} {k : Nat} : ∀ j, k < ih_cn P j → ∃ i, i < j ∧ P i ∧ ih_cn P i = k := by
  intro j
  induction j with
  | zero => intro h; exact absurd h (Nat.not_lt_zero _)
  | succ j ih =>
    intro h
    by_cases hk : k < ih_cn P j
    · obtain ⟨i, hi, hp, e⟩ := ih hk
      exact ⟨i, by omega, hp, e⟩
    · by_cases hp : P j
      · rw [ih_cs hp] at h
        exact ⟨j, by omega, hp, by omega⟩
      · rw [ih_cf hp] at h
        omega
theorem ih_ccl {F Q Q' : Nat → Prop} : ∀ j, (∀ i, i < j → F i → (Q (ih_cn F i) ↔ Q' i)) → ih_cn Q (ih_cn F j) = ih_cn (fun i => F i ∧ Q' i) j := by
  intro j
  induction j with
  | zero => intro _; rfl
  | succ j ih =>
    intro h
    have e := ih (fun i hi => h i (by omega))
    by_cases hF : F j
    · rw [ih_cs hF]
      by_cases hQ : Q' j
      · rw [ih_cs ((h j (by omega) hF).mpr hQ), e, ih_cs (P := fun i => F i ∧ Q' i) ⟨hF, hQ⟩]
      · rw [ih_cf (fun z => hQ ((h j (by omega) hF).mp z)), e, ih_cf (P := fun i => F i ∧ Q' i) (fun z => hQ z.2)]
    · rw [ih_cf hF, e, ih_cf (P := fun i => F i ∧ Q' i) (fun z => hF z.1)]
theorem ih_ccg {P P' : Nat → Prop} : ∀ j, (∀ i, i < j → (P i ↔ P' i)) → ih_cn P j = ih_cn P' j := by
  intro j
  induction j with
  | zero => intro _; rfl
  | succ j ih =>
    intro h
    have e := ih (fun i hi => h i (by omega))
    by_cases hP : P j
    · rw [ih_cs hP, ih_cs ((h j (by omega)).mp hP), e]
    · rw [ih_cf hP, ih_cf (fun z => hP ((h j (by omega)).mpr z)), e]
/-- a stretch without P -/
theorem ih_cno {P : Nat → Prop} (a : Nat) : ∀ d, (∀ i, a ≤ i → i < a + d → ¬ P i) → ih_cn P (a + d) = ih_cn P a := by
  intro d
  induction d with
  | zero => intro _; rfl
  | succ d ih =>
    intro h
    rw [← Nat.add_assoc, ih_cf (h (a + d) (by omega) (by omega))]
    exact ih (fun i h1 h2 => h i h1 (by omega))
/-- a stretch full of P -/
theorem ih_cal {P : Nat → Prop} (a : Nat) : ∀ d, (∀ i, a ≤ i → i < a + d → P i) → ih_cn P (a + d) = ih_cn P a + d := by
  intro d
  induction d with
  | zero => intro _; rfl
  | succ d ih =>
    intro h
    rw [← Nat.add_assoc, ih_cs (h (a + d) (by omega) (by omega)), ih (fun i h1 h2 => h i h1 (by omega))]
    omega
/-- a column -/
theorem ih_ccol {P : Nat → Prop} {x m h : Nat} (hm : m ≤ h) (hh : h ≤ 41) (hP : ∀ y, y < 41 → (P (41 * x + y) ↔ m ≤ y ∧ y < h)) : ih_cn P (41 * (x + 1)) = ih_cn P (41 * x) + (h - m) := by
  have e1 := ih_cno (P := P) (41 * x) m (fun i h1 h2 => by
    obtain ⟨y, rfl⟩ : ∃ y, i = 41 * x + y := ⟨i - 41 * x, by omega⟩
    rw [hP y (by omega)]; omega)
  have e2 := ih_cal (P := P) (41 * x + m) (h - m) (fun i h1 h2 => by
    obtain ⟨y, rfl⟩ : ∃ y, i = 41 * x + y := ⟨i - 41 * x, by omega⟩
    rw [hP y (by omega)]; omega)
  have e3 := ih_cno (P := P) (41 * x + h) (41 - h) (fun i h1 h2 => by
    obtain ⟨y, rfl⟩ : ∃ y, i = 41 * x + y := ⟨i - 41 * x, by omega⟩
    rw [hP y (by omega)]; omega)
  rw [show 41 * x + m + (h - m) = 41 * x + h by omega] at e2
  rw [show 41 * x + h + (41 - h) = 41 * (x + 1) by omega] at e3
  omega

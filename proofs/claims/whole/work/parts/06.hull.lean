/-- the points of the columns: column x holds y with mm x ≤ y < hh x -/
def ih_S (mm hh : Nat → Nat) (q : ih_V) : Prop := ∃ x y : Nat, x ≤ 40 ∧ mm x ≤ y ∧ y < hh x ∧ q = ((x : Int), (y : Int))
/-- the columns: none above 40 -/
def ih_C (mm hh : Nat → Nat) : Prop := ∀ x, x ≤ 40 → hh x ≤ 41
def ih_PL (mm hh : Nat → Nat) (x : Nat) (q : ih_V) : Prop := ∃ j : Nat, j < x ∧ mm j < hh j ∧ q = ((j : Int), (mm j : Int))
def ih_PU (mm hh : Nat → Nat) (xr k : Nat) (q : ih_V) : Prop := q = ((xr : Int), (mm xr : Int)) ∨ ∃ j : Nat, k ≤ j ∧ j ≤ 40 ∧ mm j < hh j ∧ q = ((j : Int), (hh j : Int) - 1)
def ih_IL (mm hh : Nat → Nat) (x c : Nat) (p : Nat → ih_V) : Prop :=
  (c = 0 ∧ ∀ j, j < x → ¬ mm j < hh j) ∨ (1 ≤ c ∧ c ≤ x ∧ ih_J (1, 0) 0 (c - 1) p (ih_PL mm hh x))
theorem ih_L10 (a : ih_V) : ih_L (1, 0) a = a.1 := by
  simp only [ih_L]
  omega
theorem ih_Lup (a : ih_V) : ih_L (-100, 1) a = a.2 - 100 * a.1 := by
  simp only [ih_L]
  omega
theorem ih_IL0 {mm hh : Nat → Nat} {p : Nat → ih_V} : ih_IL mm hh 0 0 p := Or.inl ⟨rfl, fun j h => absurd h (Nat.not_lt_zero j)⟩
theorem ih_ILe {mm hh : Nat → Nat} {x c : Nat} {p : Nat → ih_V} (h : ih_IL mm hh x c p) (hn : ¬ mm x < hh x) : ih_IL mm hh (x + 1) c p := by
  rcases h with ⟨h1, h2⟩ | ⟨h1, h2, h3⟩
  · refine Or.inl ⟨h1, fun j hj => ?_⟩
    by_cases e : j = x
    · rw [e]; exact hn
    · exact h2 j (by omega)
  · refine Or.inr ⟨h1, by omega, ih_Jcg h3 (fun _ _ _ => rfl) (fun q => ⟨?_, ?_⟩)⟩
    · rintro ⟨j, a, b, e⟩
      refine ⟨j, ?_, b, e⟩
      apply Nat.lt_of_le_of_ne (by omega)
      intro z
      rw [z] at b
      exact hn b
    · rintro ⟨j, a, b, e⟩
      exact ⟨j, by omega, b, e⟩
theorem ih_ILs {mm hh : Nat → Nat} {x c d : Nat} {p p' : Nat → ih_V} (h : ih_IL mm hh x c p) (hn : mm x < hh x) (hR : ih_R 0 c d p ((x : Int), (mm x : Int))) (hp : ∀ i, i < d → p' i = p i) (hr : p' d = ((x : Int), (mm x : Int))) : ih_IL mm hh (x + 1) (d + 1) p' := by
  rcases h with ⟨h1, h2⟩ | ⟨h1, h2, h3⟩
  · have d0 : d = 0 := by have := hR.1; omega
    rw [d0] at hr ⊢
    refine Or.inr ⟨by omega, by omega, ih_J0 (fun q => ⟨?_, ?_⟩)⟩
    · rintro ⟨j, a, b, e⟩
      rw [hr, e]
      have : j = x := by
        apply Classical.byContradiction
        intro z
        exact h2 j (by omega) b
      rw [this]
    · intro e
      exact ⟨x, by omega, hn, by rw [e, hr]⟩
  · have hP : ∀ q, ih_PL mm hh (x + 1) q ↔ ih_PL mm hh x q ∨ q = ((x : Int), (mm x : Int)) := fun q => by
      constructor
      · rintro ⟨j, a, b, e⟩
        by_cases z : j = x
        · exact Or.inr (by rw [e, z])
        · exact Or.inl ⟨j, by omega, b, e⟩
      · rintro (⟨j, a, b, e⟩ | e)
        · exact ⟨j, by omega, b, e⟩
        · exact ⟨x, by omega, hn, e⟩
    have h4 := ih_ext (Pr' := ih_PL mm hh (x + 1)) h3 (by omega) (fun q hq => by
      obtain ⟨j, a, b, e⟩ := hq
      rw [ih_L10, ih_L10, e]
      dsimp only
      omega) (fun q hq hl => by
      obtain ⟨j, a, b, e⟩ := hq
      obtain ⟨j', a', b', e'⟩ := h3.2.1 (c - 1) (by omega) (by omega)
      rw [ih_L10, ih_L10, e, e'] at hl
      dsimp only at hl
      have : j = j' := by omega
      rw [e, e', this]) hR hp hr hP
    have := hR.1
    exact Or.inr ⟨by omega, by omega, by rw [show d + 1 - 1 = d by omega]; exact h4.2⟩
/-- the way back: columns from k on are done -/
def ih_IU (mm hh : Nat → Nat) (f xr k c : Nat) (p : Nat → ih_V) : Prop :=
  p f = ((xr : Int), (mm xr : Int)) ∧ mm xr < hh xr ∧ xr ≤ 40 ∧ (∀ j, xr < j → j ≤ 40 → ¬ mm j < hh j) ∧ f + 1 ≤ c ∧ c ≤ f + 1 + (41 - k) ∧
  ((xr < k ∧ c = f + 1) ∨
   (k ≤ xr ∧ c = f + 2 ∧ p (f + 1) = p f ∧ hh xr = mm xr + 1 ∧ ∀ j, k ≤ j → j < xr → ¬ mm j < hh j) ∨
   (k ≤ xr ∧ f + 2 ≤ c ∧ ih_J (-100, 1) f (c - 1) p (ih_PU mm hh xr k)))
theorem ih_IU0 {mm hh : Nat → Nat} {c : Nat} {p : Nat → ih_V} (h : ih_IL mm hh 41 c p) (hc : 1 ≤ c) : ∃ xr, ih_IU mm hh (c - 1) xr 41 c p := by
  rcases h with ⟨h1, h2⟩ | ⟨h1, h2, h3⟩
  · omega
  · obtain ⟨j, a, b, e⟩ := h3.2.1 (c - 1) (by omega) (by omega)
    refine ⟨j, e, b, by omega, fun i hi hi' hn => ?_, by omega, by omega, Or.inl ⟨by omega, by omega⟩⟩
    have := (h3.2.2.2 ((i : Int), (mm i : Int)) ⟨i, by omega, hn, rfl⟩).2
    rw [ih_L10, ih_L10, e] at this
    dsimp only at this
    omega
theorem ih_IUe {mm hh : Nat → Nat} {f xr k c : Nat} {p : Nat → ih_V} (hk : k ≤ 40) (h : ih_IU mm hh f xr (k + 1) c p) (hn : ¬ mm k < hh k) : ih_IU mm hh f xr k c p := by
  obtain ⟨h1, h2, h3, h4, h5, h6, h7⟩ := h
  have nk : xr ≠ k := by
    intro z
    rw [z] at h2
    exact hn h2
  refine ⟨h1, h2, h3, h4, h5, by omega, ?_⟩
  rcases h7 with ⟨a, b⟩ | ⟨a, b, c1, d, e⟩ | ⟨a, b, j⟩
  · exact Or.inl ⟨by omega, b⟩
  · refine Or.inr (Or.inl ⟨by omega, b, c1, d, fun j h1 h2 => ?_⟩)
    by_cases z : j = k
    · rw [z]; exact hn
    · exact e j (by omega) h2
  · refine Or.inr (Or.inr ⟨by omega, b, ih_Jcg j (fun _ _ _ => rfl) (fun q => ⟨?_, ?_⟩)⟩)
    · rintro (e | ⟨j, a, b, c, e⟩)
      · exact Or.inl e
      · refine Or.inr ⟨j, ?_, b, c, e⟩
        apply Nat.lt_of_le_of_ne a
        intro z
        rw [← z] at c
        exact hn c
    · rintro (e | ⟨j, a, b, c, e⟩)
      · exact Or.inl e
      · exact Or.inr ⟨j, by omega, b, c, e⟩
/-- a first point of the way back that is not the turning point itself, or a later one -/
theorem ih_IUn {mm hh : Nat → Nat} (hC : ih_C mm hh) {f xr k : Nat} {p p' : Nat → ih_V} (h1 : p f = ((xr : Int), (mm xr : Int))) (h2 : mm xr < hh xr) (h3 : xr ≤ 40) (hk : k ≤ xr) (hn : mm k < hh k) (hv : k = xr → hh k ≠ mm k + 1) (hP : ∀ q, ih_PU mm hh xr k q ↔ q = p f ∨ q = ((k : Int), (hh k : Int) - 1)) (hp : ∀ i, i < f + 1 → p' i = p i) (hr : p' (f + 1) = ((k : Int), (hh k : Int) - 1)) : ih_J (-100, 1) f (f + 1) p' (ih_PU mm hh xr k) := by
  have cx := hC xr h3
  have ck := hC k (by omega)
  have := ih_ext (l := (-100, 1)) (f := f) (c := f + 1) (d := f + 1) (p := p) (p' := p') (Pr := fun q => q = p f) (Pr' := ih_PU mm hh xr k) (r := ((k : Int), (hh k : Int) - 1)) (ih_J0 (fun q => Iff.rfl)) (Nat.le_refl _) (fun q hq => by
    have hq' : q = p f := hq
    rw [hq', h1, ih_Lup, ih_Lup]
    dsimp only
    by_cases z : k = xr
    · have := hv z
      rw [← z]
      omega
    · omega) (fun q hq _ => hq) ⟨Nat.le_refl _, fun j a b => by omega, fun z => by omega⟩ hp hr hP
  exact this.2
theorem ih_IUs {mm hh : Nat → Nat} (hC : ih_C mm hh) {f xr k c d : Nat} {p p' : Nat → ih_V} (hk : k ≤ 40) (h : ih_IU mm hh f xr (k + 1) c p) (hn : mm k < hh k) (hR : ih_R f c d p ((k : Int), (hh k : Int) - 1)) (hp : ∀ i, i < d → p' i = p i) (hr : p' d = ((k : Int), (hh k : Int) - 1)) : f + 1 ≤ d ∧ ih_IU mm hh f xr k (d + 1) p' := by
  obtain ⟨h1, h2, h3, h4, h5, h6, h7⟩ := h
  have kx : k ≤ xr := by
    apply Nat.not_lt.mp
    intro z
    exact h4 k z hk hn
  have hd : f + 1 ≤ d := by
    apply Nat.not_lt.mp
    intro z
    have := (hR.2.1 d (Nat.le_refl d) (by omega)).1
    omega
  have dc := hR.1
  refine ⟨hd, by rw [hp f (by omega)]; exact h1, h2, h3, h4, by omega, by omega, ?_⟩
  rcases h7 with ⟨a, b⟩ | ⟨a, b, c1, e1, e⟩ | ⟨a, b, j⟩
  · have ek : k = xr := by omega
    have ed : d = f + 1 := by omega
    rw [ed] at hr hp ⊢
    by_cases z : hh k = mm k + 1
    · refine Or.inr (Or.inl ⟨by omega, rfl, ?_, by rw [← ek]; exact z, fun j h1 h2 => by omega⟩)
      rw [hr, hp f (by omega), h1, z, ek]
      exact Prod.ext rfl (show ((mm xr + 1 : Nat) : Int) - 1 = (mm xr : Int) by omega)
    · refine Or.inr (Or.inr ⟨by omega, by omega, ?_⟩)
      rw [show f + 1 + 1 - 1 = f + 1 by omega]
      apply ih_IUn hC h1 h2 h3 kx hn (fun _ => z) (fun q => ?_) hp hr
      rw [h1]
      constructor
      · rintro (y | ⟨j, a, b, c, y⟩)
        · exact Or.inl y
        · have : j = k := by
            apply Classical.byContradiction
            intro w
            exact h4 j (by omega) b c
          rw [this] at y
          exact Or.inr y
      · rintro (y | y)
        · exact Or.inl y
        · exact Or.inr ⟨k, Nat.le_refl k, hk, hn, y⟩
  · have kl : k < xr := by omega
    have ed : d = f + 1 := by
      apply Classical.byContradiction
      intro z
      have := hR.2.2 (by omega)
      rw [show d - 2 = f by omega, show d - 1 = f + 1 by omega, c1, ih_T2] at this
      omega
    rw [ed] at hr hp ⊢
    refine Or.inr (Or.inr ⟨by omega, by omega, ?_⟩)
    rw [show f + 1 + 1 - 1 = f + 1 by omega]
    apply ih_IUn hC h1 h2 h3 kx hn (fun z => by omega) (fun q => ?_) hp hr
    rw [h1]
    constructor
    · rintro (y | ⟨j, a, b, c, y⟩)
      · exact Or.inl y
      · by_cases w : j = k
        · rw [w] at y
          exact Or.inr y
        · have w2 : j = xr := by
            apply Classical.byContradiction
            intro w3
            by_cases w4 : j < xr
            · exact e j (by omega) w4 c
            · exact h4 j (by omega) b c
          refine Or.inl ?_
          rw [y, w2, e1]
          exact Prod.ext rfl (show ((mm xr + 1 : Nat) : Int) - 1 = (mm xr : Int) by omega)
    · rintro (y | y)
      · exact Or.inl y
      · exact Or.inr ⟨k, Nat.le_refl k, hk, hn, y⟩
  · refine Or.inr (Or.inr ⟨by omega, by omega, ?_⟩)
    rw [show d + 1 - 1 = d by omega]
    have cx := hC xr h3
    have ck := hC k hk
    refine (ih_ext (Pr' := ih_PU mm hh xr k) j h5 (fun q hq => ?_) (fun q hq hl => ?_) hR hp hr (fun q => ⟨?_, ?_⟩)).2
    · rw [ih_Lup, ih_Lup]
      rcases hq with y | ⟨j, a, b, c, y⟩
      · rw [y]
        dsimp only
        omega
      · have := hC j b
        rw [y]
        dsimp only
        omega
    · have hq2 := j.2.1 (c - 1) (by omega) (by omega)
      rw [ih_Lup, ih_Lup] at hl
      generalize p (c - 1) = q' at hl hq2 ⊢
      rcases hq with y | ⟨j, a, b, c, y⟩
      · rcases hq2 with y' | ⟨j', a', b', c', y'⟩
        · rw [y, y']
        · have := hC j' b'
          rw [y, y'] at hl ⊢
          dsimp only at hl
          have w : xr = j' := by omega
          rw [← w] at hl ⊢
          exact Prod.ext rfl (show (mm xr : Int) = (hh xr : Int) - 1 by omega)
      · have := hC j b
        rcases hq2 with y' | ⟨j', a', b', c', y'⟩
        · rw [y, y'] at hl ⊢
          dsimp only at hl
          have w : xr = j := by omega
          rw [← w] at hl ⊢
          exact Prod.ext rfl (show (hh xr : Int) - 1 = (mm xr : Int) by omega)
        · have := hC j' b'
          rw [y, y'] at hl ⊢
          dsimp only at hl
          have w : j = j' := by omega
          rw [w]
    · rintro (y | ⟨j, a, b, c, y⟩)
      · exact Or.inl (Or.inl y)
      · by_cases w : j = k
        · rw [w] at y
          exact Or.inr y
        · exact Or.inl (Or.inr ⟨j, by omega, b, c, y⟩)
    · rintro ((y | ⟨j, a, b, c, y⟩) | y)
      · exact Or.inl y
      · exact Or.inr ⟨j, by omega, b, c, y⟩
      · exact Or.inr ⟨k, Nat.le_refl k, hk, hn, y⟩

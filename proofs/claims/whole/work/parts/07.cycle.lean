/-- the corners in a ring around the points S -/
def ih_HC (S : ih_V → Prop) (c : Nat) (p : Nat → ih_V) : Prop :=
  c ≤ 82 ∧ (∀ i, i < c → S (p i)) ∧ (c = 0 → ∀ q, ¬ S q) ∧ (c = 1 → ∀ q, S q → q = p 0) ∧
  (2 ≤ c → (∀ i, i + 1 < c → ih_E S (p i) (p (i + 1))) ∧ ih_E S (p (c - 1)) (p 0)) ∧
  (∀ i, 0 < i → i < c → p i ≠ p 0) ∧ (∀ q, 0 < c → S q → (p 0).1 < q.1 ∨ ((p 0).1 = q.1 ∧ (p 0).2 ≤ q.2))
theorem ih_Elow {mm hh : Nat → Nat} {a b : ih_V} (h : ih_Pair (1, 0) (ih_PL mm hh 41) a b) : ih_E (ih_S mm hh) a b := by
  obtain ⟨h1, h2⟩ := h
  refine ⟨(1, 0), h1, fun q hq => ?_⟩
  obtain ⟨x, y, hx, hy1, hy2, rfl⟩ := hq
  obtain ⟨g1, g2⟩ := h2 ((x : Int), (mm x : Int)) ⟨x, by omega, by omega, rfl⟩
  have e : ih_T a b ((x : Int), (y : Int)) = ih_T a b ((x : Int), (mm x : Int)) + (b.1 - a.1) * ((y : Int) - (mm x : Int)) := by
    simp only [ih_T]
    grind
  rw [ih_L10, ih_L10] at h1
  have m := Int.mul_nonneg (show 0 ≤ b.1 - a.1 by omega) (show 0 ≤ (y : Int) - (mm x : Int) by omega)
  refine ⟨by omega, fun z => ?_⟩
  have := g2 (by omega)
  rw [ih_L10, ih_L10, ih_L10] at this ⊢
  exact this
theorem ih_Eup {mm hh : Nat → Nat} (hC : ih_C mm hh) {xr : Nat} (hx : xr ≤ 40) (hn : mm xr < hh xr) {a b : ih_V} (ha : ih_PU mm hh xr 0 a) (hb : ih_PU mm hh xr 0 b) (h : ih_Pair (-100, 1) (ih_PU mm hh xr 0) a b) : ih_E (ih_S mm hh) a b := by
  obtain ⟨h1, h2⟩ := h
  have cx := hC xr hx
  have bnd : ∀ q, ih_PU mm hh xr 0 q → 0 ≤ q.2 ∧ q.2 ≤ 40 := by
    rintro q (y | ⟨j, a, b, c, y⟩)
    · rw [y]
      dsimp only
      omega
    · have := hC j b
      rw [y]
      dsimp only
      omega
  have ba := bnd a ha
  have bb := bnd b hb
  have h1' := h1
  rw [ih_Lup, ih_Lup] at h1'
  refine ⟨(-100, 1), h1, fun q hq => ?_⟩
  obtain ⟨x, y, hx', hy1, hy2, rfl⟩ := hq
  obtain ⟨g1, g2⟩ := h2 ((x : Int), (hh x : Int) - 1) (Or.inr ⟨x, by omega, hx', by omega, rfl⟩)
  have e : ih_T a b ((x : Int), (y : Int)) = ih_T a b ((x : Int), (hh x : Int) - 1) + (a.1 - b.1) * ((hh x : Int) - 1 - (y : Int)) := by
    simp only [ih_T]
    grind
  have m := Int.mul_nonneg (show 0 ≤ a.1 - b.1 by omega) (show 0 ≤ (hh x : Int) - 1 - (y : Int) by omega)
  refine ⟨by omega, fun z => ?_⟩
  have z1 : ih_T a b ((x : Int), (hh x : Int) - 1) = 0 := by omega
  have z2 : (a.1 - b.1) * ((hh x : Int) - 1 - (y : Int)) = 0 := by omega
  have g3 := g2 z1
  by_cases w : (y : Int) = (hh x : Int) - 1
  · rw [w]
    exact g3
  · have w1 : a.1 - b.1 = 0 := by
      rcases Int.mul_eq_zero.mp z2 with t | t
      · exact t
      · omega
    have w2 : a.2 < b.2 := by omega
    have z3 : (b.2 - a.2) * (a.1 - (x : Int)) = 0 := by
      have : ih_T a b ((x : Int), (y : Int)) = (b.2 - a.2) * (a.1 - (x : Int)) + (b.1 - a.1) * ((y : Int) - a.2) := by
        simp only [ih_T]
        grind
      rw [show b.1 - a.1 = 0 by omega, Int.zero_mul] at this
      omega
    have w3 : a.1 = (x : Int) := by
      rcases Int.mul_eq_zero.mp z3 with t | t
      · omega
      · omega
    rw [ih_Lup, ih_Lup, ih_Lup]
    dsimp only
    rcases ha with ya | ⟨ja, a1, a2, a3, ya⟩
    · rcases hb with yb | ⟨jb, b1, b2, b3, yb⟩
      · rw [ya, yb] at w2
        omega
      · rw [ya] at w1 w2 w3 ⊢
        rw [yb] at w1 w2 ⊢
        dsimp only at w1 w2 w3 ⊢
        have t1 : x = xr := by omega
        have t2 : jb = xr := by omega
        rw [t1] at hy1 hy2
        rw [t1, t2]
        omega
    · rcases hb with yb | ⟨jb, b1, b2, b3, yb⟩
      · rw [ya, yb] at w1 w2
        dsimp only at w1 w2
        have t1 : ja = xr := by omega
        rw [t1] at w2
        omega
      · rw [ya, yb] at w1 w2
        dsimp only at w1 w2
        have t1 : ja = jb := by omega
        rw [t1] at w2
        omega
theorem ih_PLS {mm hh : Nat → Nat} {q : ih_V} (h : ih_PL mm hh 41 q) : ih_S mm hh q := by
  obtain ⟨j, a, b, e⟩ := h
  exact ⟨j, mm j, by omega, Nat.le_refl _, b, e⟩
theorem ih_PUS {mm hh : Nat → Nat} {xr : Nat} (hx : xr ≤ 40) (hn : mm xr < hh xr) {q : ih_V} (h : ih_PU mm hh xr 0 q) : ih_S mm hh q := by
  rcases h with y | ⟨j, a, b, c, y⟩
  · exact ⟨xr, mm xr, hx, Nat.le_refl _, hn, y⟩
  · refine ⟨j, hh j - 1, b, by omega, by omega, ?_⟩
    rw [y]
    exact Prod.ext rfl (show (hh j : Int) - 1 = ((hh j - 1 : Nat) : Int) by omega)
theorem ih_fin {mm hh : Nat → Nat} (hC : ih_C mm hh) {f xr c c' : Nat} {p : Nat → ih_V} (hf : f ≤ 40) (lo : ih_J (1, 0) 0 f p (ih_PL mm hh 41)) (iu : ih_IU mm hh f xr 0 c p) (hc : (0 < c - 1 ∧ p (c - 1) = p 0 ∧ c' = c - 1) ∨ (¬ (0 < c - 1 ∧ p (c - 1) = p 0) ∧ c' = c)) : ih_HC (ih_S mm hh) c' p := by
  obtain ⟨h1, h2, h3, h4, h5, h6, h7⟩ := iu
  obtain ⟨xl, l1, l2, l3⟩ := lo.2.1 0 (Nat.le_refl 0) (Nat.zero_le f)
  have lmin : ∀ j, j ≤ 40 → mm j < hh j → xl ≤ j := fun j hj hn => by
    have := (lo.2.2.2 ((j : Int), (mm j : Int)) ⟨j, by omega, hn, rfl⟩).1
    rw [ih_L10, ih_L10, l3] at this
    dsimp only at this
    omega
  have first : ∀ q, ih_S mm hh q → (p 0).1 < q.1 ∨ ((p 0).1 = q.1 ∧ (p 0).2 ≤ q.2) := by
    rintro q ⟨x, y, hx, hy1, hy2, rfl⟩
    have := lmin x hx (by omega)
    rw [l3]
    dsimp only
    by_cases w : xl = x
    · refine Or.inr ⟨by omega, ?_⟩
      rw [w]
      omega
    · exact Or.inl (by omega)
  have nlow : ∀ i, 0 < i → i ≤ f → p i ≠ p 0 := fun i hi hif e => by
    have := ih_Jlt lo (Nat.le_refl 0) hi hif
    rw [e] at this
    omega
  rcases h7 with ⟨a, b⟩ | ⟨a, b, c1, e1, e⟩ | ⟨a, b, j⟩
  · omega
  · have only : ∀ i, i ≤ 40 → mm i < hh i → i = xr := fun i hi hn => by
      apply Classical.byContradiction
      intro z
      by_cases w : i < xr
      · exact e i (Nat.zero_le i) w hn
      · exact h4 i (by omega) hi hn
    have f0 : f = 0 := by
      apply Classical.byContradiction
      intro z
      obtain ⟨j1, q1, q2, q3⟩ := lo.2.1 1 (by omega) (by omega)
      refine nlow 1 (by omega) (by omega) ?_
      rw [q3, l3, only j1 (by omega) q2, only xl (by omega) l2]
    have c2 : c' = 1 := by
      rcases hc with ⟨_, _, z⟩ | ⟨z, _⟩
      · omega
      · exfalso
        apply z
        refine ⟨by omega, ?_⟩
        rw [f0] at c1
        rw [show c - 1 = 0 + 1 by omega]
        exact c1
    have one : ∀ q, ih_S mm hh q → q = p 0 := by
      rintro q ⟨x, y, hx, hy1, hy2, rfl⟩
      have t := only x hx (by omega)
      have t' := only xl (by omega) l2
      rw [t] at hy1 hy2
      rw [l3, t, t']
      exact Prod.ext rfl (show (y : Int) = (mm xr : Int) by omega)
    rw [c2]
    refine ⟨by omega, fun i hi => ?_, fun z => by omega, fun _ => one, fun z => by omega, fun i z1 z2 => by omega, fun q _ hq => first q hq⟩
    rw [show i = 0 by omega]
    exact ih_PLS ⟨xl, l1, l2, l3⟩
  · have fl : ih_L (-100, 1) (p f) < ih_L (-100, 1) (p (c - 1)) := ih_Jlt j (Nat.le_refl f) (by omega) (Nat.le_refl _)
    have cl := hC xl (by omega)
    have pe : p (c - 1) = ((xl : Int), (hh xl : Int) - 1) := by
      have mx := (j.2.2.2 ((xl : Int), (hh xl : Int) - 1) (Or.inr ⟨xl, Nat.zero_le _, by omega, l2, rfl⟩)).2
      rcases j.2.1 (c - 1) (by omega) (Nat.le_refl _) with y | ⟨i, a1, a2, a3, y⟩
      · rw [h1, y] at fl
        omega
      · have ci := hC i a2
        have li := lmin i a2 a3
        rw [y, ih_Lup, ih_Lup] at mx
        dsimp only at mx
        have w : i = xl := by omega
        rw [y, w]
    have Elo : ∀ i, i < f → ih_E (ih_S mm hh) (p i) (p (i + 1)) := fun i hi => ih_Elow (lo.2.2.1 i (Nat.zero_le i) hi)
    have Eup : ∀ i, f ≤ i → i < c - 1 → ih_E (ih_S mm hh) (p i) (p (i + 1)) := fun i hi hi' => ih_Eup hC h3 h2 (j.2.1 i hi (by omega)) (j.2.1 (i + 1) (by omega) (by omega)) (j.2.2.1 i hi hi')
    have Eall : ∀ i, i < c - 1 → ih_E (ih_S mm hh) (p i) (p (i + 1)) := fun i hi => by
      by_cases w : i < f
      · exact Elo i w
      · exact Eup i (by omega) hi
    have Sall : ∀ i, i < c → ih_S mm hh (p i) := fun i hi => by
      by_cases w : i ≤ f
      · exact ih_PLS (lo.2.1 i (Nat.zero_le i) w)
      · exact ih_PUS h3 h2 (j.2.1 i (by omega) (by omega))
    rcases hc with ⟨z1, z2, z3⟩ | ⟨z1, z3⟩
    · have c3 : 2 ≤ c' := by
        apply Nat.not_lt.mp
        intro w
        have t1 : f = 0 := by omega
        rw [z2, t1] at fl
        omega
      rw [z3] at c3 ⊢
      refine ⟨by omega, fun i hi => Sall i (by omega), fun z => by omega, fun z => by omega, fun _ => ⟨fun i hi => Eall i (by omega), ?_⟩, fun i i1 i2 => ?_, fun q _ hq => first q hq⟩
      · have := Eall (c - 1 - 1) (by omega)
        rw [show c - 1 - 1 + 1 = c - 1 by omega, z2] at this
        exact this
      · by_cases w : i ≤ f
        · exact nlow i i1 w
        · intro t
          have := ih_Jlt j (i := i) (j := c - 1) (by omega) (by omega) (Nat.le_refl _)
          rw [t, z2] at this
          omega
    · rw [z3]
      have ne : p (c - 1) ≠ p 0 := fun t => z1 ⟨by omega, t⟩
      have gt : mm xl < hh xl - 1 := by
        apply Nat.not_le.mp
        intro t
        apply ne
        rw [pe, l3]
        exact Prod.ext rfl (show (hh xl : Int) - 1 = (mm xl : Int) by omega)
      refine ⟨by omega, Sall, fun z => by omega, fun z => by omega, fun _ => ⟨fun i hi => Eall i (by omega), ?_⟩, fun i i1 i2 => ?_, fun q _ hq => first q hq⟩
      · rw [pe, l3]
        refine ⟨(0, -1), ?_, ?_⟩
        · simp only [ih_L]
          omega
        · rintro q ⟨x, y, hx, hy1, hy2, rfl⟩
          have lx := lmin x hx (by omega)
          have e : ih_T ((xl : Int), (hh xl : Int) - 1) ((xl : Int), (mm xl : Int)) ((x : Int), (y : Int)) = ((hh xl : Int) - 1 - (mm xl : Int)) * ((x : Int) - (xl : Int)) := by
            simp only [ih_T]
            grind
          rw [e]
          refine ⟨Int.mul_nonneg (by omega) (by omega), fun t => ?_⟩
          have t2 : (x : Int) - (xl : Int) = 0 := ih_z0 (by omega) t
          have t3 : x = xl := by omega
          rw [t3] at hy1 hy2
          simp only [ih_L]
          omega
      · by_cases w : i ≤ f
        · exact nlow i i1 w
        · intro t
          rcases j.2.1 i (by omega) (by omega) with y | ⟨k, a1, a2, a3, y⟩
          · have := ih_Jlt j (i := f) (j := i) (Nat.le_refl f) (by omega) (by omega)
            rw [y, h1] at this
            omega
          · rw [y, l3] at t
            have t1 : (k : Int) = (xl : Int) := congrArg Prod.fst t
            have t2 : (hh k : Int) - 1 = (mm xl : Int) := congrArg Prod.snd t
            have t3 : k = xl := by omega
            rw [t3] at t2
            omega

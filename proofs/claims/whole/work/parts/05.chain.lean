/-- the chain from place f to place e over the points Pr so far -/
def ih_J (l : ih_V) (f e : Nat) (p : Nat → ih_V) (Pr : ih_V → Prop) : Prop :=
  f ≤ e ∧ (∀ i, f ≤ i → i ≤ e → Pr (p i)) ∧ (∀ i, f ≤ i → i < e → ih_Pair l Pr (p i) (p (i + 1))) ∧ (∀ q, Pr q → ih_L l (p f) ≤ ih_L l q ∧ ih_L l q ≤ ih_L l (p e))
/-- the chain while r waits behind it -/
def ih_M (l : ih_V) (f e : Nat) (p : Nat → ih_V) (Pr : ih_V → Prop) (r : ih_V) : Prop :=
  f ≤ e ∧ (∀ i, f ≤ i → i ≤ e → Pr (p i)) ∧ (∀ i, f ≤ i → i < e → ih_Pair l Pr (p i) (p (i + 1))) ∧ (∀ q, Pr q → ih_L l (p f) ≤ ih_L l q ∧ ih_L l q < ih_L l r) ∧ (∀ q, Pr q → ih_L l (p e) ≤ ih_L l q → 0 ≤ ih_T (p e) r q)
theorem ih_M0 {l : ih_V} {f e : Nat} {p : Nat → ih_V} {Pr : ih_V → Prop} {r : ih_V} (h : ih_J l f e p Pr) (hr : ∀ q, Pr q → ih_L l q < ih_L l r) (inj : ∀ q, Pr q → ih_L l q = ih_L l (p e) → q = p e) : ih_M l f e p Pr r := by
  obtain ⟨h1, h2, h3, h4⟩ := h
  refine ⟨h1, h2, h3, fun q hq => ⟨(h4 q hq).1, hr q hq⟩, fun q hq hl => ?_⟩
  rw [inj q hq (by have := (h4 q hq).2; omega)]
  have := ih_T0 (p e) r
  omega
theorem ih_Mpop {l : ih_V} {f e : Nat} {p : Nat → ih_V} {Pr : ih_V → Prop} {r : ih_V} (h : ih_M l f (e + 1) p Pr r) (hf : f ≤ e) (hT : ih_T (p e) (p (e + 1)) r ≤ 0) : ih_M l f e p Pr r := by
  obtain ⟨h1, h2, h3, h4, h5⟩ := h
  refine ⟨hf, fun i a b => h2 i a (by omega), fun i a b => h3 i a (by omega), h4, fun q hq hl => ?_⟩
  obtain ⟨p1, p2⟩ := h3 e hf (by omega)
  have lr := (h4 q hq).2
  have lt := (h4 _ (h2 (e + 1) (by omega) (by omega))).2
  by_cases c : ih_L l (p (e + 1)) ≤ ih_L l q
  · have i2 := ih_id2 l (p e) (p (e + 1)) r q
    have m1 := Int.mul_nonneg (show 0 ≤ ih_L l r - ih_L l (p e) by omega) (h5 q hq c)
    have m2 := Int.mul_nonneg (show 0 ≤ ih_L l r - ih_L l q by omega) (show 0 ≤ - ih_T (p e) (p (e + 1)) r by omega)
    rw [Int.mul_neg] at m2
    exact ih_nn (show 0 < ih_L l r - ih_L l (p (e + 1)) by omega) (by rw [i2]; omega)
  · have i3 := ih_id3 l (p e) (p (e + 1)) r q
    have m1 := Int.mul_nonneg (show 0 ≤ ih_L l r - ih_L l (p e) by omega) (p2 q hq).1
    have m2 := Int.mul_nonneg (show 0 ≤ ih_L l q - ih_L l (p e) by omega) (show 0 ≤ - ih_T (p e) (p (e + 1)) r by omega)
    rw [Int.mul_neg] at m2
    exact ih_nn (show 0 < ih_L l (p (e + 1)) - ih_L l (p e) by omega) (by rw [i3]; omega)
theorem ih_old {l : ih_V} {f e : Nat} {p : Nat → ih_V} {Pr : ih_V → Prop} {r : ih_V} (h : ih_M l f e p Pr r) (hx : f < e → 0 < ih_T (p (e - 1)) (p e) r) : ∀ d i, i + 1 + d = e → f ≤ i → 0 < ih_T (p i) (p (i + 1)) r := by
  intro d
  induction d with
  | zero =>
    intro i hi hf
    have := hx (by omega)
    rw [show e - 1 = i by omega, show e = i + 1 by omega] at this
    exact this
  | succ d ih =>
    intro i hi hf
    have a := ih (i + 1) (by omega) (by omega)
    obtain ⟨h1, h2, h3, h4, h5⟩ := h
    obtain ⟨p1, p2⟩ := h3 i hf (by omega)
    obtain ⟨p3, p4⟩ := h3 (i + 1) (by omega) (by omega)
    have k := p2 (p (i + 1 + 1)) (h2 (i + 1 + 1) (by omega) (by omega))
    have k1 : 0 < ih_T (p i) (p (i + 1)) (p (i + 1 + 1)) := by
      apply ih_ltne k.1
      intro z
      have := (k.2 z.symm).2
      omega
    have r1 := (h4 _ (h2 (i + 1) (by omega) (by omega))).2
    have i4 := ih_id4 l (p i) (p (i + 1)) (p (i + 1 + 1)) r
    have m1 := Int.mul_pos (show 0 < ih_L l r - ih_L l (p (i + 1)) by omega) k1
    have m2 := Int.mul_pos (show 0 < ih_L l (p (i + 1)) - ih_L l (p i) by omega) a
    exact ih_pp (show 0 < ih_L l (p (i + 1 + 1)) - ih_L l (p (i + 1)) by omega) (by rw [i4]; omega)
theorem ih_push {l : ih_V} {f e : Nat} {p : Nat → ih_V} {Pr : ih_V → Prop} {r : ih_V} (h : ih_M l f e p Pr r) (hx : f < e → 0 < ih_T (p (e - 1)) (p e) r) {p' : Nat → ih_V} {Pr' : ih_V → Prop} (hp : ∀ i, i ≤ e → p' i = p i) (hr : p' (e + 1) = r) (hP : ∀ q, Pr' q ↔ Pr q ∨ q = r) : ih_J l f (e + 1) p' Pr' := by
  have ho := ih_old h hx
  obtain ⟨h1, h2, h3, h4, h5⟩ := h
  have lt := (h4 _ (h2 e h1 (Nat.le_refl e))).2
  refine ⟨by omega, fun i a b => ?_, fun i a b => ?_, fun q hq => ?_⟩
  · by_cases c : i ≤ e
    · rw [hp i c]
      exact (hP _).mpr (Or.inl (h2 i a c))
    · rw [show i = e + 1 by omega, hr]
      exact (hP r).mpr (Or.inr rfl)
  · by_cases c : i < e
    · rw [hp i (by omega), hp (i + 1) (by omega)]
      obtain ⟨p1, p2⟩ := h3 i a c
      refine ⟨p1, fun q hq => ?_⟩
      rcases (hP q).mp hq with z | z
      · exact p2 q z
      · have o := ho (e - 1 - i) i (by omega) a
        rw [z]
        exact ⟨by omega, fun y => by omega⟩
    · have ei : i = e := by omega
      rw [ei, hp e (Nat.le_refl e), hr]
      refine ⟨lt, fun q hq => ?_⟩
      rcases (hP q).mp hq with z | z
      · have lq := (h4 q z).2
        have lf := (h4 q z).1
        by_cases c2 : ih_L l (p e) ≤ ih_L l q
        · exact ⟨h5 q z c2, fun _ => ⟨c2, by omega⟩⟩
        · have hfe : f < e := by
            apply Nat.lt_of_le_of_ne h1
            intro y
            rw [y] at lf
            exact c2 lf
          obtain ⟨p1, p2⟩ := h3 (e - 1) (by omega) (by omega)
          rw [show e - 1 + 1 = e by omega] at p1 p2
          have i1 := ih_id1 l (p (e - 1)) (p e) r q
          have m1 := Int.mul_nonneg (show 0 ≤ ih_L l r - ih_L l (p e) by omega) (p2 q z).1
          have m2 := Int.mul_pos (show 0 < ih_L l (p e) - ih_L l q by omega) (hx hfe)
          have := ih_pp (show 0 < ih_L l (p e) - ih_L l (p (e - 1)) by omega) (t := ih_T (p e) r q) (by rw [i1]; omega)
          exact ⟨by omega, fun y => by omega⟩
      · rw [z, ih_T1]
        exact ⟨Int.le_refl 0, fun _ => ⟨by omega, Int.le_refl _⟩⟩
  · rw [hp f h1, hr]
    rcases (hP q).mp hq with z | z
    · have := h4 q z
      exact ⟨by omega, by omega⟩
    · have := (h4 _ (h2 e h1 (Nat.le_refl e))).1
      rw [z]
      exact ⟨by omega, Int.le_refl _⟩
theorem ih_J0 {l : ih_V} {f : Nat} {p : Nat → ih_V} {Pr : ih_V → Prop} (hP : ∀ q, Pr q ↔ q = p f) : ih_J l f f p Pr := by
  refine ⟨Nat.le_refl f, fun i a b => ?_, fun i a b => ?_, fun q hq => ?_⟩
  · rw [show i = f by omega]
    exact (hP _).mpr rfl
  · omega
  · rw [(hP q).mp hq]
    exact ⟨Int.le_refl _, Int.le_refl _⟩
theorem ih_Jcg {l : ih_V} {f e : Nat} {p p' : Nat → ih_V} {Pr Pr' : ih_V → Prop} (h : ih_J l f e p Pr) (hp : ∀ i, f ≤ i → i ≤ e → p' i = p i) (hP : ∀ q, Pr' q ↔ Pr q) : ih_J l f e p' Pr' := by
  have eP : Pr' = Pr := funext fun q => propext (hP q)
  rw [eP]
  obtain ⟨h1, h2, h3, h4⟩ := h
  refine ⟨h1, fun i a b => ?_, fun i a b => ?_, fun q hq => ?_⟩
  · rw [hp i a b]
    exact h2 i a b
  · rw [hp i a (by omega), hp (i + 1) (by omega) (by omega)]
    exact h3 i a b
  · rw [hp f (Nat.le_refl f) h1, hp e h1 (Nat.le_refl e)]
    exact h4 q hq
theorem ih_Jmono {l : ih_V} {f e : Nat} {p : Nat → ih_V} {Pr : ih_V → Prop} (h : ih_J l f e p Pr) {i : Nat} (hi : f ≤ i) : ∀ d, i + d + 1 ≤ e → ih_L l (p i) < ih_L l (p (i + d + 1)) := by
  intro d
  induction d with
  | zero => intro hd; exact (h.2.2.1 i hi (by omega)).1
  | succ d ih =>
    intro hd
    have a := ih (by omega)
    have b := (h.2.2.1 (i + d + 1) (by omega) (by omega)).1
    rw [show i + (d + 1) + 1 = i + d + 1 + 1 by omega]
    omega
theorem ih_Jlt {l : ih_V} {f e : Nat} {p : Nat → ih_V} {Pr : ih_V → Prop} (h : ih_J l f e p Pr) {i j : Nat} (hi : f ≤ i) (hij : i < j) (hj : j ≤ e) : ih_L l (p i) < ih_L l (p j) := by
  have := ih_Jmono h hi (j - i - 1) (by omega)
  rw [show i + (j - i - 1) + 1 = j by omega] at this
  exact this
/-- what the taking back has done: d of c places are left -/
def ih_R (f c d : Nat) (p : Nat → ih_V) (r : ih_V) : Prop :=
  d ≤ c ∧ (∀ j, d ≤ j → j < c → f + 1 ≤ j ∧ ih_T (p (j - 1)) (p j) r ≤ 0) ∧ (f + 2 ≤ d → 0 < ih_T (p (d - 2)) (p (d - 1)) r)
theorem ih_pops {l : ih_V} {f : Nat} {p : Nat → ih_V} {Pr : ih_V → Prop} {r : ih_V} : ∀ k d, f + 1 ≤ d → ih_M l f (d + k - 1) p Pr r → (∀ j, d ≤ j → j < d + k → f + 1 ≤ j ∧ ih_T (p (j - 1)) (p j) r ≤ 0) → ih_M l f (d - 1) p Pr r := by
  intro k
  induction k with
  | zero => intro d _ h _; exact h
  | succ k ih =>
    intro d hd h hj
    refine ih d hd ?_ (fun j a b => hj j a (by omega))
    have e : d + (k + 1) - 1 = d + k - 1 + 1 := by omega
    rw [e] at h
    obtain ⟨_, t⟩ := hj (d + k) (by omega) (by omega)
    rw [show d + k = d + k - 1 + 1 by omega] at t
    exact ih_Mpop h (by omega) (by rw [show d + k - 1 + 1 - 1 = d + k - 1 by omega] at t; exact t)
/-- one point more on the chain -/
theorem ih_ext {l : ih_V} {f c d : Nat} {p p' : Nat → ih_V} {Pr Pr' : ih_V → Prop} {r : ih_V} (h : ih_J l f (c - 1) p Pr) (hc : f + 1 ≤ c) (hr : ∀ q, Pr q → ih_L l q < ih_L l r) (inj : ∀ q, Pr q → ih_L l q = ih_L l (p (c - 1)) → q = p (c - 1)) (hR : ih_R f c d p r) (hp : ∀ i, i < d → p' i = p i) (hr' : p' d = r) (hP : ∀ q, Pr' q ↔ Pr q ∨ q = r) : f + 1 ≤ d ∧ ih_J l f d p' Pr' := by
  obtain ⟨r1, r2, r3⟩ := hR
  have hd : f + 1 ≤ d := by
    apply Nat.not_lt.mp
    intro z
    have := (r2 d (Nat.le_refl d) (by omega)).1
    omega
  have m := ih_M0 h hr inj
  have m2 := ih_pops (l := l) (p := p) (Pr := Pr) (r := r) (c - d) d hd (by rw [show d + (c - d) - 1 = c - 1 by omega]; exact m) (fun j a b => r2 j a (by omega))
  refine ⟨hd, ?_⟩
  have := ih_push m2 (fun z => by
    have := r3 (by omega)
    rw [show d - 1 - 1 = d - 2 by omega]
    exact this) (p' := p') (Pr' := Pr') (fun i a => hp i (by omega)) (by rw [show d - 1 + 1 = d by omega]; exact hr') hP
  rw [show d - 1 + 1 = d by omega] at this
  exact this

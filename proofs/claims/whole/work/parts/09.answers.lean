theorem ih_bst {S : ih_V → Prop} {c : Nat} {p : Nat → ih_V} (h : ih_HC S c p) {f s : ih_V} (hs : S s) : ∃ i, i < c ∧ ih_L f s ≤ ih_L f (p i) := by
  obtain ⟨h1, h2, h3, h4, h5, h6, h7⟩ := h
  by_cases c2 : 2 ≤ c
  · exact ih_most c2 (h5 c2).1 (h5 c2).2 hs
  · by_cases c0 : c = 0
    · exact absurd hs (h3 c0 s)
    · refine ⟨0, by omega, ?_⟩
      rw [h4 (by omega) s hs]
      exact Int.le_refl _
theorem ih_Sg {mm hh : Nat → Nat} (hC : ih_C mm hh) {cx cy : Nat → Int32} {i : Nat} (h : ih_S mm hh (ih_p cx cy i)) : ∃ x y : Nat, x ≤ 40 ∧ y ≤ 40 ∧ cx i = nI x ∧ cy i = nI y ∧ ih_p cx cy i = ((x : Int), (y : Int)) := by
  obtain ⟨x, y, hx, h1, h2, e⟩ := h
  have := hC x hx
  have t1 : (cx i).toInt = (x : Int) := congrArg Prod.fst e
  have t2 : (cy i).toInt = (y : Int) := congrArg Prod.snd e
  refine ⟨x, y, hx, by omega, ?_, ?_, e⟩
  · apply Int32.toInt_inj.mp
    rw [t1, nI_toInt (by omega)]
  · apply Int32.toInt_inj.mp
    rw [t2, nI_toInt (by omega)]
theorem ih_64 (x y : Nat) : nI x + 64 * nI y = nI (x + 64 * y) := by
  rw [show (64 : Int32) = nI 64 from rfl, pk_mul, nI_add]
theorem ih_Sp {mm hh : Nat → Nat} (hC : ih_C mm hh) {cx cy : Nat → Int32} {i : Nat} (h : ih_S mm hh (ih_p cx cy i)) : ih_W (ih_p cx cy i) (cx i + 64 * cy i) ∧ (cx i + 64 * cy i) &&& 63 = cx i ∧ (cx i + 64 * cy i) >>> ((6 : Int32) &&& 31) = cy i ∧ ih_g (cx i) ∧ ih_g (cy i) := by
  obtain ⟨x, y, h1, h2, h3, h4, h5⟩ := ih_Sg hC h
  rw [h3, h4, h5, ih_64]
  exact ⟨⟨x, y, h1, h2, rfl, rfl⟩, ih_px h1 h2, ih_py h1 h2, ih_gn h1, ih_gn h2⟩
def ih_vl (P Q w : Int32) : Int32 := P * (w &&& 63) + Q * (w >>> ((6 : Int32) &&& 31))
def ih_ok (P : Int32) : Prop := -100 ≤ P.toInt ∧ P.toInt ≤ 100
theorem ih_Wv {q : ih_V} {w P Q : Int32} (h : ih_W q w) (hP : ih_ok P) (hQ : ih_ok Q) : (ih_vl P Q w).toInt = ih_L (P.toInt, Q.toInt) q := by
  obtain ⟨x, y, h1, h2, rfl, rfl⟩ := h
  unfold ih_vl
  rw [ih_px h1 h2, ih_py h1 h2, ih_val hP hQ (ih_gn h1) (ih_gn h2), nI_toInt (n := x) (by omega), nI_toInt (n := y) (by omega)]
theorem ih_fan (x0 y0 x1 y1 x2 y2 s : Int32) : (s - (x0 * y1 - x1 * y0)) + ((x1 - x0) * (y2 - y0) - (y1 - y0) * (x2 - x0)) = (s + (x1 * y2 - x2 * y1)) - (x0 * y2 - x2 * y0) := by
  grind
/-- the sum over the first edges -/
def ih_sh (cx cy : Nat → Int32) : Nat → Int32
  | 0 => 0
  | i + 1 => ih_sh cx cy i + (cx i * cy (i + 1) - cx (i + 1) * cy i)
theorem ih_sh1 (cx cy : Nat → Int32) : ih_sh cx cy 1 - (cx 0 * cy 1 - cx 1 * cy 0) = 0 := by
  show (0 + (cx 0 * cy (0 + 1) - cx (0 + 1) * cy 0)) - (cx 0 * cy 1 - cx 1 * cy 0) = 0
  grind
theorem ih_shE (s x0 y0 x1 y1 : Int32) : s + (x1 * y0 - x0 * y1) = s - (x0 * y1 - x1 * y0) := by
  grind
/-- the point lies on an edge's line -/
def ih_B (c : Nat) (p : Nat → ih_V) (s : ih_V) : Prop := ∃ i, i < c ∧ ih_T (p i) (p (ih_af c i)) s = 0
theorem ih_Bs {S : ih_V → Prop} {c : Nat} {p : Nat → ih_V} (h : ih_HC S c p) (hc : c < 3) {s : ih_V} (hs : S s) : ih_B c p s := by
  obtain ⟨h1, h2, h3, h4, h5, h6, h7⟩ := h
  by_cases c2 : c = 2
  · obtain ⟨e1, e2⟩ := h5 (by omega)
    refine ⟨0, by omega, ?_⟩
    have a := e1 0 (by omega)
    rw [c2] at e2
    rw [show ih_af c 0 = 1 by unfold ih_af; rw [if_pos (by omega)]]
    exact ih_two a e2 hs
  · by_cases c0 : c = 0
    · exact absurd hs (h3 c0 s)
    · refine ⟨0, by omega, ?_⟩
      rw [show ih_af c 0 = 0 by unfold ih_af; rw [if_neg (by omega)], ih_T2]
def ih_G (mm hh : Nat → Nat) (c : Nat) (p : Nat → ih_V) (i : Nat) : Prop := ih_F mm hh i ∧ ih_B c p (((i / 41 : Nat) : Int), ((i % 41 : Nat) : Int))
theorem ih_Gi {mm hh : Nat → Nat} {c : Nat} {p : Nat → ih_V} {x y : Nat} (hy : y < 41) : ih_G mm hh c p (41 * x + y) ↔ (mm x ≤ y ∧ y < hh x) ∧ ih_B c p ((x : Int), (y : Int)) := by
  unfold ih_G
  rw [ih_Fi hy, show (41 * x + y) / 41 = x by omega, show (41 * x + y) % 41 = y by omega]
/-- the count behind the lower and behind the upper end of a column -/
theorem ih_Glo {mm hh : Nat → Nat} {c : Nat} {p : Nat → ih_V} {x : Nat} (h : mm x ≤ 41) : ih_cn (ih_G mm hh c p) (41 * x + mm x) = ih_cn (ih_G mm hh c p) (41 * x) :=
  ih_cno (41 * x) (mm x) (fun i h1 h2 => by
    obtain ⟨y, rfl⟩ : ∃ y, i = 41 * x + y := ⟨i - 41 * x, by omega⟩
    rw [ih_Gi (by omega)]
    rintro ⟨z, _⟩
    omega)
theorem ih_Ghi {mm hh : Nat → Nat} {c : Nat} {p : Nat → ih_V} {x : Nat} (h : hh x ≤ 41) : ih_cn (ih_G mm hh c p) (41 * (x + 1)) = ih_cn (ih_G mm hh c p) (41 * x + hh x) := by
  have := ih_cno (P := ih_G mm hh c p) (41 * x + hh x) (41 - hh x) (fun i h1 h2 => by
    obtain ⟨y, rfl⟩ : ∃ y, i = 41 * x + y := ⟨i - 41 * x, by omega⟩
    rw [ih_Gi (by omega)]
    rintro ⟨z, _⟩
    omega)
  rw [show 41 * x + hh x + (41 - hh x) = 41 * (x + 1) by omega] at this
  exact this
/-- the points of one column, counted over the list -/
theorem ih_Kcol {mm hh : Nat → Nat} {x : Nat} (hx : x ≤ 40) (hm : mm x ≤ hh x) (hh' : hh x ≤ 41) : ih_cn (fun i => ih_F mm hh i ∧ i / 41 = x) 1681 = hh x - mm x := by
  have e0 := ih_cno (P := fun i => ih_F mm hh i ∧ i / 41 = x) 0 (41 * x) (fun i h1 h2 z => by
    have := z.2
    omega)
  rw [Nat.zero_add] at e0
  have e1 := ih_ccol (P := fun i => ih_F mm hh i ∧ i / 41 = x) (x := x) hm hh' (fun y hy => by
    show ih_F mm hh (41 * x + y) ∧ (41 * x + y) / 41 = x ↔ _
    rw [ih_Fi hy]
    constructor
    · rintro ⟨z, _⟩
      exact z
    · intro z
      exact ⟨z, by omega⟩)
  have e2 := ih_cno (P := fun i => ih_F mm hh i ∧ i / 41 = x) (41 * (x + 1)) (1681 - 41 * (x + 1)) (fun i h1 h2 z => by
    have := z.2
    omega)
  rw [show 41 * (x + 1) + (1681 - 41 * (x + 1)) = 1681 by omega] at e2
  rw [e2, e1, e0]
  show 0 + (hh x - mm x) = _
  omega
theorem ih_Kno {mm hh : Nat → Nat} {R : Nat → Prop} (h : ∀ i, i < 1681 → ¬ R i) : ih_cn (fun i => ih_F mm hh i ∧ R i) 1681 = 0 := by
  have e0 := ih_cno (P := fun i => ih_F mm hh i ∧ R i) 0 1681 (fun i h1 h2 z => h i (by omega) z.2)
  rw [Nat.zero_add] at e0
  exact e0

/-- a point, a linear form -/
abbrev ih_V : Type := Int × Int
/-- twice the signed area of a, b, c -/
def ih_T (a b c : ih_V) : Int := (b.1 - a.1) * (c.2 - a.2) - (b.2 - a.2) * (c.1 - a.1)
def ih_L (l a : ih_V) : Int := l.1 * a.1 + l.2 * a.2
def ih_D (a b : ih_V) : Int := (b.1 - a.1) * (b.1 - a.1) + (b.2 - a.2) * (b.2 - a.2)
/-- a coordinate of the grid -/
def ih_g (x : Int32) : Prop := 0 ≤ x.toInt ∧ x.toInt ≤ 40
theorem ih_zn (n : Nat) : nI n = Int32.ofInt (n : Int) := (Int32.ofInt_eq_ofNat).symm
theorem ih_zt {x : Int} (h : -2147483648 ≤ x) (h' : x < 2147483648) : (Int32.ofInt x).toInt = x := Int32.toInt_ofInt_of_le (by omega) (by omega)
theorem ih_mb {u v k m : Int} (h1 : -k ≤ u) (h2 : u ≤ k) (h3 : -m ≤ v) (h4 : v ≤ m) : -(k * m) ≤ u * v ∧ u * v ≤ k * m := by
  have a1 := Int.mul_nonneg (show 0 ≤ k - u by omega) (show 0 ≤ m + v by omega)
  have a2 := Int.mul_nonneg (show 0 ≤ k + u by omega) (show 0 ≤ m - v by omega)
  have a3 := Int.mul_nonneg (show 0 ≤ k - u by omega) (show 0 ≤ m - v by omega)
  have a4 := Int.mul_nonneg (show 0 ≤ k + u by omega) (show 0 ≤ m + v by omega)
  have e1 : (k - u) * (m + v) + (k + u) * (m - v) = 2 * (k * m) - 2 * (u * v) := by grind
  have e2 : (k - u) * (m - v) + (k + u) * (m + v) = 2 * (k * m) + 2 * (u * v) := by grind
  constructor <;> omega
theorem ih_gn {n : Nat} (h : n ≤ 40) : ih_g (nI n) := by
  unfold ih_g
  rw [nI_toInt (by omega)]
  omega
theorem ih_gx {x : Int32} (h : ih_g x) : ∃ n : Nat, n ≤ 40 ∧ x = nI n := by
  refine ⟨x.toInt.toNat, by unfold ih_g at h; omega, ?_⟩
  apply Int32.toInt_inj.mp
  rw [nI_toInt (by unfold ih_g at h; omega)]
  unfold ih_g at h
  omega
theorem ih_turn {ax ay bx b2 cx cy : Int32} (h1 : ih_g ax) (h2 : ih_g ay) (h3 : ih_g bx) (h4 : ih_g b2) (h5 : ih_g cx) (h6 : ih_g cy) : ((bx - ax) * (cy - ay) - (b2 - ay) * (cx - ax)).toInt = ih_T (ax.toInt, ay.toInt) (bx.toInt, b2.toInt) (cx.toInt, cy.toInt) := by
  unfold ih_g at *
  have e : (bx - ax) * (cy - ay) - (b2 - ay) * (cx - ax) = Int32.ofInt ((bx.toInt - ax.toInt) * (cy.toInt - ay.toInt) - (b2.toInt - ay.toInt) * (cx.toInt - ax.toInt)) := by
    simp only [Int32.ofInt_sub, Int32.ofInt_mul, Int32.ofInt_toInt]
  have b1 := ih_mb (u := bx.toInt - ax.toInt) (v := cy.toInt - ay.toInt) (k := 40) (m := 40) (by omega) (by omega) (by omega) (by omega)
  have b2' := ih_mb (u := b2.toInt - ay.toInt) (v := cx.toInt - ax.toInt) (k := 40) (m := 40) (by omega) (by omega) (by omega) (by omega)
  rw [e, ih_zt (by omega) (by omega)]
  rfl
theorem ih_val {p q x y : Int32} (hp : -100 ≤ p.toInt ∧ p.toInt ≤ 100) (hq : -100 ≤ q.toInt ∧ q.toInt ≤ 100) (hx : ih_g x) (hy : ih_g y) : (p * x + q * y).toInt = ih_L (p.toInt, q.toInt) (x.toInt, y.toInt) := by
  unfold ih_g at *
  have e : p * x + q * y = Int32.ofInt (p.toInt * x.toInt + q.toInt * y.toInt) := by
    simp only [Int32.ofInt_add, Int32.ofInt_mul, Int32.ofInt_toInt]
  have b1 := ih_mb (u := p.toInt) (v := x.toInt) (k := 100) (m := 40) (by omega) (by omega) (by omega) (by omega)
  have b2 := ih_mb (u := q.toInt) (v := y.toInt) (k := 100) (m := 40) (by omega) (by omega) (by omega) (by omega)
  rw [e, ih_zt (by omega) (by omega)]
  rfl
theorem ih_dist {ax ay bx b2 : Int32} (h1 : ih_g ax) (h2 : ih_g ay) (h3 : ih_g bx) (h4 : ih_g b2) : ((bx - ax) * (bx - ax) + (b2 - ay) * (b2 - ay)).toInt = ih_D (ax.toInt, ay.toInt) (bx.toInt, b2.toInt) := by
  unfold ih_g at *
  have e : (bx - ax) * (bx - ax) + (b2 - ay) * (b2 - ay) = Int32.ofInt ((bx.toInt - ax.toInt) * (bx.toInt - ax.toInt) + (b2.toInt - ay.toInt) * (b2.toInt - ay.toInt)) := by
    simp only [Int32.ofInt_add, Int32.ofInt_sub, Int32.ofInt_mul, Int32.ofInt_toInt]
  have b1 := ih_mb (u := bx.toInt - ax.toInt) (v := bx.toInt - ax.toInt) (k := 40) (m := 40) (by omega) (by omega) (by omega) (by omega)
  have b2' := ih_mb (u := b2.toInt - ay.toInt) (v := b2.toInt - ay.toInt) (k := 40) (m := 40) (by omega) (by omega) (by omega) (by omega)
  rw [e, ih_zt (by omega) (by omega)]
  rfl
theorem ih_px {x y : Nat} (hx : x ≤ 40) (hy : y ≤ 40) : nI (x + 64 * y) &&& 63 = nI x := by
  rw [pk_andN (by omega) 6 (by decide)]
  exact congrArg nI (by omega)
theorem ih_py {x y : Nat} (hx : x ≤ 40) (hy : y ≤ 40) : nI (x + 64 * y) >>> ((6 : Int32) &&& 31) = nI y := by
  rw [pk_shrN (by omega) _ 6 (by decide)]
  exact congrArg nI (by omega)
theorem ih_pj {x y x' y' : Nat} (hx : x ≤ 40) (hy : y ≤ 40) (hx' : x' ≤ 40) (hy' : y' ≤ 40) : nI (x + 64 * y) = nI (x' + 64 * y') ↔ x = x' ∧ y = y' := by
  rw [nI_eq (by omega) (by omega)]
  omega
theorem ih_0t : (0 : Int32).toInt = 0 := by decide
theorem ih_le0 {x : Int32} : x ≤ 0 ↔ x.toInt ≤ 0 := by rw [Int32.le_iff_toInt_le, ih_0t]
theorem ih_lt0 {x : Int32} : x < 0 ↔ x.toInt < 0 := by rw [Int32.lt_iff_toInt_lt, ih_0t]
theorem ih_eq0 {x : Int32} : x = 0 ↔ x.toInt = 0 := by rw [← Int32.toInt_inj, ih_0t]

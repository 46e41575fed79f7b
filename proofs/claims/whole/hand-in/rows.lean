section
theorem pk_us {f : Nat → Int32} {k : Nat} {x : Int32} : upd f k x k = x := if_pos rfl
theorem pk_un {f : Nat → Int32} {k j : Nat} {x : Int32} (h : j ≠ k) : upd f k x j = f j := if_neg h
theorem pk_sub {a b : Nat} (h : b ≤ a) : nI a - nI b = nI (a - b) := by
  obtain ⟨c, rfl⟩ : ∃ c, a = c + b := ⟨a - b, by omega⟩
  rw [← nI_add, Int32.add_sub_cancel, Nat.add_sub_cancel]
theorem pk_m1 (n : Nat) : nI (n + 1) + (-1) = nI n := by
  rw [← nI_1, Int32.add_assoc, show (1 : Int32) + (-1) = 0 from rfl, Int32.add_zero]
theorem pk_mul (a b : Nat) : nI a * nI b = nI (a * b) := (Int32.ofNat_mul a b).symm
theorem pk_div {a d : Nat} (ha : a < 2 ^ 31) (h0 : 0 < d) (hd : d < 2 ^ 31) : nI a / nI d = nI (a / d) := by
  apply Int32.toInt_inj.mp
  rw [lg_idiv_nonneg (by rw [nI_toInt ha]; omega) (by rw [nI_toInt hd]; omega), nI_toInt ha, nI_toInt hd, nI_toInt (Nat.lt_of_le_of_lt (Nat.div_le_self a d) ha)]
  first | rfl | exact (Int.natCast_ediv _ _).symm
theorem pk_rem {a d : Nat} (ha : a < 2 ^ 31) (h0 : 0 < d) (hd : d < 2 ^ 31) : nI a - nI a / nI d * nI d = nI (a % d) := by
  rw [pk_div ha h0 hd, pk_mul, pk_sub (Nat.div_mul_le_self a d)]
  exact congrArg nI (by have := Nat.div_add_mod' a d; omega)
theorem pk_ix (x : Int32) {n : Nat} (hn : n < 2 ^ 31) : x < 0 ∨ nI n ≤ x ∨ ∃ j : Nat, j < n ∧ x = nI j := by
  by_cases h : x < 0
  · exact Or.inl h
  · obtain ⟨j, hj, rfl⟩ := nI_of h
    by_cases h2 : j < n
    · exact Or.inr (Or.inr ⟨j, h2, rfl⟩)
    · exact Or.inr (Or.inl (nI_le (by omega) hj))
theorem pk_le {x y : Int32} {A B : Prop} (a b : Nat) (f : a ≤ b → A) (g : b < a → B) (hx : x = nI a := by rfl) (hy : y = nI b := by rfl) (ha : a < 2 ^ 31 := by omega) (hb : b < 2 ^ 31 := by omega) : (x ≤ y → A) ∧ (¬ x ≤ y → B) := by
  subst hx hy
  rw [nI_leI ha hb]
  exact ⟨f, fun z => g (by omega)⟩
theorem pk_lt {x y : Int32} {A B : Prop} (a b : Nat) (f : a < b → A) (g : b ≤ a → B) (hx : x = nI a := by rfl) (hy : y = nI b := by rfl) (ha : a < 2 ^ 31 := by omega) (hb : b < 2 ^ 31 := by omega) : (x < y → A) ∧ (¬ x < y → B) := by
  subst hx hy
  rw [nI_ltI ha hb]
  exact ⟨f, fun z => g (by omega)⟩
theorem pk_eq {x y : Int32} {A B : Prop} (a b : Nat) (f : a = b → A) (g : a ≠ b → B) (hx : x = nI a := by rfl) (hy : y = nI b := by rfl) (ha : a < 2 ^ 31 := by omega) (hb : b < 2 ^ 31 := by omega) : (x = y → A) ∧ (¬ x = y → B) := by
  subst hx hy
  rw [nI_eq ha hb]
  exact ⟨f, g⟩
theorem pk_in {x : Int32} (n N : Nat) (h : n < N) (hx : x = nI n := by rfl) (hN : N < 2 ^ 31 := by omega) : vp_in x N := by
  subst hx
  exact vp_in_nI h hN
theorem pk_cl {x : Int32} (n : Nat) (hx : x = nI n := by rfl) (h : n < 2 ^ 31 := by omega) : x.toNatClampNeg = n := by
  subst hx
  exact nI_clamp h
theorem pk_tn {n : Nat} (h : n < 2 ^ 32) : (nI n).toBitVec.toNat = n := Nat.mod_eq_of_lt h
theorem pk_and (x : Int32) {m : Int32} (k : Nat) (hm : m.toBitVec.toNat = 2 ^ k - 1) : x &&& m = nI (x.toBitVec.toNat % 2 ^ k) := by
  apply Int32.toBitVec_inj.mp
  apply BitVec.eq_of_toNat_eq
  rw [Int32.toBitVec_and, BitVec.toNat_and, hm, Nat.and_two_pow_sub_one_eq_mod]
  show _ = (BitVec.ofNat 32 _).toNat
  rw [BitVec.toNat_ofNat]
  exact (Nat.mod_eq_of_lt (Nat.lt_of_le_of_lt (Nat.mod_le _ _) x.toBitVec.isLt)).symm
theorem pk_andN {n : Nat} (h : n < 2 ^ 32) {m : Int32} (k : Nat) (hm : m.toBitVec.toNat = 2 ^ k - 1) : nI n &&& m = nI (n % 2 ^ k) := by
  rw [pk_and _ k hm, pk_tn h]
theorem pk_shr (a s : Int32) (k : Nat) (hs : (s.toBitVec.smod 32).toNat = k) : (a >>> s).toInt = a.toInt >>> k := by
  show (a.toBitVec.sshiftRight (s.toBitVec.smod 32).toNat).toInt = _
  rw [hs, BitVec.toInt_sshiftRight]
  rfl
theorem pk_shrN {n : Nat} (h : n < 2 ^ 31) (s : Int32) (k : Nat) (hs : (s.toBitVec.smod 32).toNat = k) : nI n >>> s = nI (n / 2 ^ k) := by
  apply Int32.toInt_inj.mp
  have h2 : n / 2 ^ k ≤ n := Nat.div_le_self _ _
  rw [pk_shr _ _ k hs, nI_toInt h, nI_toInt (by omega), Int.shiftRight_eq_div_pow]
  rfl
theorem pk_loop {σ : Type} (W : Nat → Nat → σ → Prop) (I : Nat → σ → Prop) (e i0 : Nat) (s : σ) (hi : i0 ≤ e) (h0 : I i0 s) (hx : ∀ n s, I e s → W (n + 1) e s)
    (hs : ∀ n i s, i < e → I i s → (∀ s', I (i + 1) s' → W n (i + 1) s') → W (n + 1) i s) : ∃ n, W n i0 s :=
  ⟨e + 1, loop_i W I e hx hs (e + 1) i0 s hi (by omega) h0⟩
theorem lp1 {A1 : Type} (W : Nat → A1 → Prop) (I : A1 → Prop) (μ : A1 → Nat) (hs : ∀ (n : Nat) (a1 : A1), I a1 → (∀ (b1 : A1), I b1 → μ b1 < μ a1 → W n b1) → W (n + 1) a1) (a1 : A1) (h : I a1) : ∃ n, W n a1 :=
  loop_m (σ := A1) (fun n s => W n s) (fun s => I s) (fun s => μ s) (fun n s hI hk => hs n s hI (fun b1 h9 hm => hk b1 h9 hm)) a1 h
theorem lp2 {A1 A2 : Type} (W : Nat → A1 → A2 → Prop) (I : A1 → A2 → Prop) (μ : A1 → A2 → Nat) (hs : ∀ (n : Nat) (a1 : A1) (a2 : A2), I a1 a2 → (∀ (b1 : A1) (b2 : A2), I b1 b2 → μ b1 b2 < μ a1 a2 → W n b1 b2) → W (n + 1) a1 a2) (a1 : A1) (a2 : A2) (h : I a1 a2) : ∃ n, W n a1 a2 :=
  loop_m (σ := A1 × A2) (fun n s => W n s.1 s.2) (fun s => I s.1 s.2) (fun s => μ s.1 s.2) (fun n s hI hk => hs n s.1 s.2 hI (fun b1 b2 h9 hm => hk (b1, b2) h9 hm)) (a1, a2) h
theorem lp3 {A1 A2 A3 : Type} (W : Nat → A1 → A2 → A3 → Prop) (I : A1 → A2 → A3 → Prop) (μ : A1 → A2 → A3 → Nat) (hs : ∀ (n : Nat) (a1 : A1) (a2 : A2) (a3 : A3), I a1 a2 a3 → (∀ (b1 : A1) (b2 : A2) (b3 : A3), I b1 b2 b3 → μ b1 b2 b3 < μ a1 a2 a3 → W n b1 b2 b3) → W (n + 1) a1 a2 a3) (a1 : A1) (a2 : A2) (a3 : A3) (h : I a1 a2 a3) : ∃ n, W n a1 a2 a3 :=
  loop_m (σ := A1 × A2 × A3) (fun n s => W n s.1 s.2.1 s.2.2) (fun s => I s.1 s.2.1 s.2.2) (fun s => μ s.1 s.2.1 s.2.2) (fun n s hI hk => hs n s.1 s.2.1 s.2.2 hI (fun b1 b2 b3 h9 hm => hk (b1, b2, b3) h9 hm)) (a1, a2, a3) h
theorem lp4 {A1 A2 A3 A4 : Type} (W : Nat → A1 → A2 → A3 → A4 → Prop) (I : A1 → A2 → A3 → A4 → Prop) (μ : A1 → A2 → A3 → A4 → Nat) (hs : ∀ (n : Nat) (a1 : A1) (a2 : A2) (a3 : A3) (a4 : A4), I a1 a2 a3 a4 → (∀ (b1 : A1) (b2 : A2) (b3 : A3) (b4 : A4), I b1 b2 b3 b4 → μ b1 b2 b3 b4 < μ a1 a2 a3 a4 → W n b1 b2 b3 b4) → W (n + 1) a1 a2 a3 a4) (a1 : A1) (a2 : A2) (a3 : A3) (a4 : A4) (h : I a1 a2 a3 a4) : ∃ n, W n a1 a2 a3 a4 :=
  loop_m (σ := A1 × A2 × A3 × A4) (fun n s => W n s.1 s.2.1 s.2.2.1 s.2.2.2) (fun s => I s.1 s.2.1 s.2.2.1 s.2.2.2) (fun s => μ s.1 s.2.1 s.2.2.1 s.2.2.2) (fun n s hI hk => hs n s.1 s.2.1 s.2.2.1 s.2.2.2 hI (fun b1 b2 b3 b4 h9 hm => hk (b1, b2, b3, b4) h9 hm)) (a1, a2, a3, a4) h
end
section
/-- a point, a linear form -/
abbrev ih_V : Type := Int × Int
/-- twice the signed area of a, b, c -/
def ih_T (a b c : ih_V) : Int := (b.1 - a.1) * (c.2 - a.2) - (b.2 - a.2) * (c.1 - a.1)
def ih_L (l a : ih_V) : Int := l.1 * a.1 + l.2 * a.2
def ih_D (a b : ih_V) : Int := (b.1 - a.1) * (b.1 - a.1) + (b.2 - a.2) * (b.2 - a.2)
/-- a coordinate of the grid -/
def ih_g (x : Int32) : Prop := 0 ≤ x.toInt ∧ x.toInt ≤ 40
theorem ih_zn (n : Nat) : nI n = Int32.ofInt (n : Int) := (Int32.ofInt_eq_ofNat).symm
theorem ih_zt {x : Int} (h : -2147483648 ≤ x) (h' : x < 2147483648) : (Int32.ofInt x).toInt = x := Int32.toInt_ofInt_of_le (by omega) (by omega)
theorem ih_mb {u v k m : Int} (h1 : -k ≤ u) (h2 : u ≤ k) (h3 : -m ≤ v) (h4 : v ≤ m) : -(k * m) ≤ u * v ∧ u * v ≤ k * m := by
  have a1 := Int.mul_nonneg (show 0 ≤ k - u by omega) (show 0 ≤ m + v by omega)
  have a2 := Int.mul_nonneg (show 0 ≤ k + u by omega) (show 0 ≤ m - v by omega)
  have a3 := Int.mul_nonneg (show 0 ≤ k - u by omega) (show 0 ≤ m - v by omega)
  have a4 := Int.mul_nonneg (show 0 ≤ k + u by omega) (show 0 ≤ m + v by omega)
  have e1 : (k - u) * (m + v) + (k + u) * (m - v) = 2 * (k * m) - 2 * (u * v) := by grind
  have e2 : (k - u) * (m - v) + (k + u) * (m + v) = 2 * (k * m) + 2 * (u * v) := by grind
  constructor <;> omega
theorem ih_gn {n : Nat} (h : n ≤ 40) : ih_g (nI n) := by
  unfold ih_g
  rw [nI_toInt (by omega)]
  omega
theorem ih_gx {x : Int32} (h : ih_g x) : ∃ n : Nat, n ≤ 40 ∧ x = nI n := by
  refine ⟨x.toInt.toNat, by unfold ih_g at h; omega, ?_⟩
  apply Int32.toInt_inj.mp
  rw [nI_toInt (by unfold ih_g at h; omega)]
  unfold ih_g at h
  omega
theorem ih_turn {ax ay bx b2 cx cy : Int32} (h1 : ih_g ax) (h2 : ih_g ay) (h3 : ih_g bx) (h4 : ih_g b2) (h5 : ih_g cx) (h6 : ih_g cy) : ((bx - ax) * (cy - ay) - (b2 - ay) * (cx - ax)).toInt = ih_T (ax.toInt, ay.toInt) (bx.toInt, b2.toInt) (cx.toInt, cy.toInt) := by
  unfold ih_g at *
  have e : (bx - ax) * (cy - ay) - (b2 - ay) * (cx - ax) = Int32.ofInt ((bx.toInt - ax.toInt) * (cy.toInt - ay.toInt) - (b2.toInt - ay.toInt) * (cx.toInt - ax.toInt)) := by
    simp only [Int32.ofInt_sub, Int32.ofInt_mul, Int32.ofInt_toInt]
  have b1 := ih_mb (u := bx.toInt - ax.toInt) (v := cy.toInt - ay.toInt) (k := 40) (m := 40) (by omega) (by omega) (by omega) (by omega)
  have b2' := ih_mb (u := b2.toInt - ay.toInt) (v := cx.toInt - ax.toInt) (k := 40) (m := 40) (by omega) (by omega) (by omega) (by omega)
  rw [e, ih_zt (by omega) (by omega)]
  rfl
theorem ih_val {p q x y : Int32} (hp : -100 ≤ p.toInt ∧ p.toInt ≤ 100) (hq : -100 ≤ q.toInt ∧ q.toInt ≤ 100) (hx : ih_g x) (hy : ih_g y) : (p * x + q * y).toInt = ih_L (p.toInt, q.toInt) (x.toInt, y.toInt) := by
  unfold ih_g at *
  have e : p * x + q * y = Int32.ofInt (p.toInt * x.toInt + q.toInt * y.toInt) := by
    simp only [Int32.ofInt_add, Int32.ofInt_mul, Int32.ofInt_toInt]
  have b1 := ih_mb (u := p.toInt) (v := x.toInt) (k := 100) (m := 40) (by omega) (by omega) (by omega) (by omega)
  have b2 := ih_mb (u := q.toInt) (v := y.toInt) (k := 100) (m := 40) (by omega) (by omega) (by omega) (by omega)
  rw [e, ih_zt (by omega) (by omega)]
  rfl
theorem ih_dist {ax ay bx b2 : Int32} (h1 : ih_g ax) (h2 : ih_g ay) (h3 : ih_g bx) (h4 : ih_g b2) : ((bx - ax) * (bx - ax) + (b2 - ay) * (b2 - ay)).toInt = ih_D (ax.toInt, ay.toInt) (bx.toInt, b2.toInt) := by
  unfold ih_g at *
  have e : (bx - ax) * (bx - ax) + (b2 - ay) * (b2 - ay) = Int32.ofInt ((bx.toInt - ax.toInt) * (bx.toInt - ax.toInt) + (b2.toInt - ay.toInt) * (b2.toInt - ay.toInt)) := by
    simp only [Int32.ofInt_add, Int32.ofInt_sub, Int32.ofInt_mul, Int32.ofInt_toInt]
  have b1 := ih_mb (u := bx.toInt - ax.toInt) (v := bx.toInt - ax.toInt) (k := 40) (m := 40) (by omega) (by omega) (by omega) (by omega)
  have b2' := ih_mb (u := b2.toInt - ay.toInt) (v := b2.toInt - ay.toInt) (k := 40) (m := 40) (by omega) (by omega) (by omega) (by omega)
  rw [e, ih_zt (by omega) (by omega)]
  rfl
theorem ih_px {x y : Nat} (hx : x ≤ 40) (hy : y ≤ 40) : nI (x + 64 * y) &&& 63 = nI x := by
  rw [pk_andN (by omega) 6 (by decide)]
  exact congrArg nI (by omega)
theorem ih_py {x y : Nat} (hx : x ≤ 40) (hy : y ≤ 40) : nI (x + 64 * y) >>> ((6 : Int32) &&& 31) = nI y := by
  rw [pk_shrN (by omega) _ 6 (by decide)]
  exact congrArg nI (by omega)
theorem ih_pj {x y x' y' : Nat} (hx : x ≤ 40) (hy : y ≤ 40) (hx' : x' ≤ 40) (hy' : y' ≤ 40) : nI (x + 64 * y) = nI (x' + 64 * y') ↔ x = x' ∧ y = y' := by
  rw [nI_eq (by omega) (by omega)]
  omega
theorem ih_0t : (0 : Int32).toInt = 0 := by decide
theorem ih_le0 {x : Int32} : x ≤ 0 ↔ x.toInt ≤ 0 := by rw [Int32.le_iff_toInt_le, ih_0t]
theorem ih_lt0 {x : Int32} : x < 0 ↔ x.toInt < 0 := by rw [Int32.lt_iff_toInt_lt, ih_0t]
theorem ih_eq0 {x : Int32} : x = 0 ↔ x.toInt = 0 := by rw [← Int32.toInt_inj, ih_0t]
end
section
/-- how many i below j have P i -/
noncomputable def ih_cn (P : Nat → Prop) : Nat → Nat
  | 0 => 0
  | j + 1 => ih_cn P j + (@ite Nat (P j) (Classical.propDecidable _) 1 0)
theorem ih_cs {P : Nat → Prop} {j : Nat} (h : P j) : ih_cn P (j + 1) = ih_cn P j + 1 := by
  simp only [ih_cn, if_pos h]
theorem ih_cf {P : Nat → Prop} {j : Nat} (h : ¬ P j) : ih_cn P (j + 1) = ih_cn P j := by
  simp only [ih_cn, if_neg h, Nat.add_zero]
theorem ih_c1 (P : Nat → Prop) (j : Nat) : ih_cn P j ≤ ih_cn P (j + 1) ∧ ih_cn P (j + 1) ≤ ih_cn P j + 1 := by
  by_cases h : P j
  · rw [ih_cs h]; omega
  · rw [ih_cf h]; omega
theorem ih_cle (P : Nat → Prop) : ∀ j, ih_cn P j ≤ j := by
  intro j
  induction j with
  | zero => exact Nat.le_refl 0
  | succ j ih => have := ih_c1 P j; omega
theorem ih_cmono (P : Nat → Prop) {i : Nat} : ∀ j, i ≤ j → ih_cn P i ≤ ih_cn P j := by
  intro j
  induction j with
  | zero => intro h; rw [show i = 0 by omega]; exact Nat.le_refl _
  | succ j ih =>
    intro h
    by_cases e : i = j + 1
    · rw [e]; exact Nat.le_refl _
    · have := ih (by omega)
      have := ih_c1 P j
      omega
theorem ih_clt {P : Nat → Prop} {i j : Nat} (h : P i) (hj : i < j) : ih_cn P i < ih_cn P j := by
  have := ih_cmono P (i := i + 1) j (by omega)
  rw [ih_cs h] at this
  omega
theorem ih_cex {P : Nat → Prop} {k : Nat} : ∀ j, k < ih_cn P j → ∃ i, i < j ∧ P i ∧ ih_cn P i = k := by
  intro j
  induction j with
  | zero => intro h; exact absurd h (Nat.not_lt_zero _)
  | succ j ih =>
    intro h
    by_cases hk : k < ih_cn P j
    · obtain ⟨i, hi, hp, e⟩ := ih hk
      exact ⟨i, by omega, hp, e⟩
    · by_cases hp : P j
      · rw [ih_cs hp] at h
        exact ⟨j, by omega, hp, by omega⟩
      · rw [ih_cf hp] at h
        omega
theorem ih_ccl {F Q Q' : Nat → Prop} : ∀ j, (∀ i, i < j → F i → (Q (ih_cn F i) ↔ Q' i)) → ih_cn Q (ih_cn F j) = ih_cn (fun i => F i ∧ Q' i) j := by
  intro j
  induction j with
  | zero => intro _; rfl
  | succ j ih =>
    intro h
    have e := ih (fun i hi => h i (by omega))
    by_cases hF : F j
    · rw [ih_cs hF]
      by_cases hQ : Q' j
      · rw [ih_cs ((h j (by omega) hF).mpr hQ), e, ih_cs (P := fun i => F i ∧ Q' i) ⟨hF, hQ⟩]
      · rw [ih_cf (fun z => hQ ((h j (by omega) hF).mp z)), e, ih_cf (P := fun i => F i ∧ Q' i) (fun z => hQ z.2)]
    · rw [ih_cf hF, e, ih_cf (P := fun i => F i ∧ Q' i) (fun z => hF z.1)]
theorem ih_ccg {P P' : Nat → Prop} : ∀ j, (∀ i, i < j → (P i ↔ P' i)) → ih_cn P j = ih_cn P' j := by
  intro j
  induction j with
  | zero => intro _; rfl
  | succ j ih =>
    intro h
    have e := ih (fun i hi => h i (by omega))
    by_cases hP : P j
    · rw [ih_cs hP, ih_cs ((h j (by omega)).mp hP), e]
    · rw [ih_cf hP, ih_cf (fun z => hP ((h j (by omega)).mpr z)), e]
/-- a stretch without P -/
theorem ih_cno {P : Nat → Prop} (a : Nat) : ∀ d, (∀ i, a ≤ i → i < a + d → ¬ P i) → ih_cn P (a + d) = ih_cn P a := by
  intro d
  induction d with
  | zero => intro _; rfl
  | succ d ih =>
    intro h
    rw [← Nat.add_assoc, ih_cf (h (a + d) (by omega) (by omega))]
    exact ih (fun i h1 h2 => h i h1 (by omega))
/-- a stretch full of P -/
theorem ih_cal {P : Nat → Prop} (a : Nat) : ∀ d, (∀ i, a ≤ i → i < a + d → P i) → ih_cn P (a + d) = ih_cn P a + d := by
  intro d
  induction d with
  | zero => intro _; rfl
  | succ d ih =>
    intro h
    rw [← Nat.add_assoc, ih_cs (h (a + d) (by omega) (by omega)), ih (fun i h1 h2 => h i h1 (by omega))]
    omega
/-- a column -/
theorem ih_ccol {P : Nat → Prop} {x m h : Nat} (hm : m ≤ h) (hh : h ≤ 41) (hP : ∀ y, y < 41 → (P (41 * x + y) ↔ m ≤ y ∧ y < h)) : ih_cn P (41 * (x + 1)) = ih_cn P (41 * x) + (h - m) := by
  have e1 := ih_cno (P := P) (41 * x) m (fun i h1 h2 => by
    obtain ⟨y, rfl⟩ : ∃ y, i = 41 * x + y := ⟨i - 41 * x, by omega⟩
    rw [hP y (by omega)]; omega)
  have e2 := ih_cal (P := P) (41 * x + m) (h - m) (fun i h1 h2 => by
    obtain ⟨y, rfl⟩ : ∃ y, i = 41 * x + y := ⟨i - 41 * x, by omega⟩
    rw [hP y (by omega)]; omega)
  have e3 := ih_cno (P := P) (41 * x + h) (41 - h) (fun i h1 h2 => by
    obtain ⟨y, rfl⟩ : ∃ y, i = 41 * x + y := ⟨i - 41 * x, by omega⟩
    rw [hP y (by omega)]; omega)
  rw [show 41 * x + m + (h - m) = 41 * x + h by omega] at e2
  rw [show 41 * x + h + (41 - h) = 41 * (x + 1) by omega] at e3
  omega
end
section
theorem ih_ltne {a b : Int} (h : a ≤ b) (hn : a ≠ b) : a < b := by omega
theorem ih_id1 (l b t r q : ih_V) : (ih_L l t - ih_L l b) * ih_T t r q = (ih_L l r - ih_L l t) * ih_T b t q + (ih_L l t - ih_L l q) * ih_T b t r := by
  simp only [ih_T, ih_L]
  grind
theorem ih_id2 (l b t r q : ih_V) : (ih_L l r - ih_L l t) * ih_T b r q = (ih_L l r - ih_L l b) * ih_T t r q - (ih_L l r - ih_L l q) * ih_T b t r := by
  simp only [ih_T, ih_L]
  grind
theorem ih_id3 (l b t r q : ih_V) : (ih_L l t - ih_L l b) * ih_T b r q = (ih_L l r - ih_L l b) * ih_T b t q - (ih_L l q - ih_L l b) * ih_T b t r := by
  simp only [ih_T, ih_L]
  grind
theorem ih_id4 (l a b c r : ih_V) : (ih_L l c - ih_L l b) * ih_T a b r = (ih_L l r - ih_L l b) * ih_T a b c + (ih_L l b - ih_L l a) * ih_T b c r := by
  simp only [ih_T, ih_L]
  grind
theorem ih_id5 (l a b c s : ih_V) : (ih_L l s - ih_L l b) * ih_T s a c = (ih_L l s - ih_L l c) * ih_T s a b + (ih_L l s - ih_L l a) * ih_T s b c := by
  simp only [ih_T, ih_L]
  grind
theorem ih_cyc (a b s : ih_V) : ih_T s a b = ih_T a b s := by
  simp only [ih_T]
  grind
theorem ih_flip (a b s : ih_V) : ih_T b a s = - ih_T a b s := by
  simp only [ih_T]
  grind
theorem ih_swap (a b s : ih_V) : ih_T a s b = - ih_T a b s := by
  simp only [ih_T]
  grind
theorem ih_T0 (a b : ih_V) : ih_T a b a = 0 := by
  simp only [ih_T]
  grind
theorem ih_T1 (a b : ih_V) : ih_T a b b = 0 := by
  simp only [ih_T]
  grind
theorem ih_T2 (a b : ih_V) : ih_T a a b = 0 := by
  simp only [ih_T]
  grind
theorem ih_co1 (l a b s : ih_V) : (ih_L l b - ih_L l a) * (s.1 - a.1) = (ih_L l s - ih_L l a) * (b.1 - a.1) - l.2 * ih_T a b s := by
  simp only [ih_T, ih_L]
  grind
theorem ih_co2 (l a b s : ih_V) : (ih_L l b - ih_L l a) * (s.2 - a.2) = (ih_L l s - ih_L l a) * (b.2 - a.2) + l.1 * ih_T a b s := by
  simp only [ih_T, ih_L]
  grind
theorem ih_nn {k t : Int} (hk : 0 < k) (h : 0 ≤ k * t) : 0 ≤ t := by
  apply Int.not_lt.mp
  intro ht
  have := Int.mul_pos hk (show 0 < -t by omega)
  rw [Int.mul_neg] at this
  omega
theorem ih_pp {k t : Int} (hk : 0 < k) (h : 0 < k * t) : 0 < t := by
  apply Int.not_le.mp
  intro ht
  have := Int.mul_nonneg (Int.le_of_lt hk) (show 0 ≤ -t by omega)
  rw [Int.mul_neg] at this
  omega
theorem ih_z0 {k t : Int} (hk : 0 < k) (h : k * t = 0) : t = 0 := by
  rcases Int.mul_eq_zero.mp h with e | e
  · omega
  · exact e
theorem ih_dsq (k t a b u v : Int) (hk : k * u = t * a) (hv : k * v = t * b) : k * k * (u * u + v * v) = t * t * (a * a + b * b) := by
  have e1 : (k * u) * (k * u) = (t * a) * (t * a) := by rw [hk]
  have e2 : (k * v) * (k * v) = (t * b) * (t * b) := by rw [hv]
  grind
/-- on the line, between the ends: not farther; as far only at the end -/
theorem ih_col {l a b s : ih_V} (hl : ih_L l a < ih_L l b) (h0 : ih_T a b s = 0) (h1 : ih_L l a ≤ ih_L l s) (h2 : ih_L l s ≤ ih_L l b) : ih_D a s ≤ ih_D a b ∧ (s ≠ b → ih_D a s < ih_D a b) := by
  have c1 := ih_co1 l a b s
  have c2 := ih_co2 l a b s
  rw [h0, Int.mul_zero] at c1 c2
  generalize hk : ih_L l b - ih_L l a = k at c1 c2
  generalize ht : ih_L l s - ih_L l a = t at c1 c2
  have k0 : 0 < k := by omega
  have t0 : 0 ≤ t := by omega
  have tk : t ≤ k := by omega
  have e := ih_dsq k t (b.1 - a.1) (b.2 - a.2) (s.1 - a.1) (s.2 - a.2) (by omega) (by omega)
  have eD : k * k * ih_D a s = t * t * ih_D a b := e
  have d0 : 0 ≤ ih_D a b := by
    have q1 : 0 ≤ (b.1 - a.1) * (b.1 - a.1) := by
      rcases Int.le_total 0 (b.1 - a.1) with z | z
      · exact Int.mul_nonneg z z
      · exact Int.mul_nonneg_of_nonpos_of_nonpos z z
    have q2 : 0 ≤ (b.2 - a.2) * (b.2 - a.2) := by
      rcases Int.le_total 0 (b.2 - a.2) with z | z
      · exact Int.mul_nonneg z z
      · exact Int.mul_nonneg_of_nonpos_of_nonpos z z
    unfold ih_D
    omega
  have kk : 0 < k * k := Int.mul_pos k0 k0
  have idd : k * k * (ih_D a b - ih_D a s) = (k - t) * (k + t) * ih_D a b := by
    have : k * k * (ih_D a b - ih_D a s) = k * k * ih_D a b - t * t * ih_D a b := by rw [Int.mul_sub, eD]
    rw [this]
    grind
  have p1 : 0 ≤ (k - t) * (k + t) := Int.mul_nonneg (by omega) (by omega)
  refine ⟨?_, ?_⟩
  · have := ih_nn kk (by rw [idd]; exact Int.mul_nonneg p1 d0)
    omega
  · intro hne
    have tk' : t < k := by
      apply ih_ltne tk
      intro e'
      apply hne
      have f1 : s.1 - a.1 = b.1 - a.1 := by
        apply Int.eq_of_mul_eq_mul_left (show k ≠ 0 by omega)
        rw [e'] at c1
        omega
      have f2 : s.2 - a.2 = b.2 - a.2 := by
        apply Int.eq_of_mul_eq_mul_left (show k ≠ 0 by omega)
        rw [e'] at c2
        omega
      exact Prod.ext (by omega) (by omega)
    have d1 : 0 < ih_D a b := by
      apply ih_ltne d0
      intro e0
      have q1 : 0 ≤ (b.1 - a.1) * (b.1 - a.1) := by
        rcases Int.le_total 0 (b.1 - a.1) with z | z
        · exact Int.mul_nonneg z z
        · exact Int.mul_nonneg_of_nonpos_of_nonpos z z
      have q2 : 0 ≤ (b.2 - a.2) * (b.2 - a.2) := by
        rcases Int.le_total 0 (b.2 - a.2) with z | z
        · exact Int.mul_nonneg z z
        · exact Int.mul_nonneg_of_nonpos_of_nonpos z z
      have e0' : (b.1 - a.1) * (b.1 - a.1) + (b.2 - a.2) * (b.2 - a.2) = 0 := e0.symm
      have z1 : (b.1 - a.1) * (b.1 - a.1) = 0 := by omega
      have z2 : (b.2 - a.2) * (b.2 - a.2) = 0 := by omega
      have w1 : b.1 - a.1 = 0 := by rcases Int.mul_eq_zero.mp z1 with z | z <;> exact z
      have w2 : b.2 - a.2 = 0 := by rcases Int.mul_eq_zero.mp z2 with z | z <;> exact z
      have g1 : b.1 = a.1 := by omega
      have g2 : b.2 = a.2 := by omega
      unfold ih_L at hl
      rw [g1, g2] at hl
      omega
    have := ih_pp kk (by rw [idd]; exact Int.mul_pos (Int.mul_pos (by omega) (by omega)) d1)
    omega
/-- an edge that has the points S on its left, and on its line only between its ends -/
def ih_Pair (l : ih_V) (S : ih_V → Prop) (a b : ih_V) : Prop :=
  ih_L l a < ih_L l b ∧ ∀ q, S q → 0 ≤ ih_T a b q ∧ (ih_T a b q = 0 → ih_L l a ≤ ih_L l q ∧ ih_L l q ≤ ih_L l b)
def ih_E (S : ih_V → Prop) (a b : ih_V) : Prop := ∃ l, ih_Pair l S a b
theorem ih_Ene {S : ih_V → Prop} {a b : ih_V} (h : ih_E S a b) : a ≠ b := by
  obtain ⟨l, h1, _⟩ := h
  intro e
  rw [e] at h1
  omega
/-- the walk keeps b once it has it -/
theorem ih_keep {S : ih_V → Prop} {a b q : ih_V} (h : ih_E S a b) (hq : S q) : ¬ ih_T a b q < 0 ∧ (ih_T a b q = 0 → ih_D a q ≤ ih_D a b) := by
  obtain ⟨l, h1, h2⟩ := h
  obtain ⟨h3, h4⟩ := h2 q hq
  exact ⟨by omega, fun e => (ih_col h1 e (h4 e).1 (h4 e).2).1⟩
/-- the walk takes b when it meets it -/
theorem ih_take {S : ih_V → Prop} {a b q : ih_V} (h : ih_E S a b) (hq : S q) (hn : q ≠ b) : ih_T a q b < 0 ∨ (ih_T a q b = 0 ∧ ih_D a q < ih_D a b) := by
  obtain ⟨l, h1, h2⟩ := h
  obtain ⟨h3, h4⟩ := h2 q hq
  rw [ih_swap]
  by_cases e : ih_T a b q = 0
  · exact Or.inr ⟨by omega, (ih_col h1 e (h4 e).1 (h4 e).2).2 hn⟩
  · exact Or.inl (by omega)
/-- two edges there and back: all on the line -/
theorem ih_two {S : ih_V → Prop} {a b q : ih_V} (h : ih_E S a b) (h' : ih_E S b a) (hq : S q) : ih_T a b q = 0 := by
  obtain ⟨l, _, h2⟩ := h
  obtain ⟨l', _, h2'⟩ := h'
  have := (h2 q hq).1
  have := (h2' q hq).1
  rw [ih_flip] at this
  omega
/-- the corners in one open half plane seen from s: their angles rise -/
theorem ih_rise {f s : ih_V} {p : Nat → ih_V} {c j : Nat} (hf : ∀ i, i < c → ih_L f (p i) < ih_L f s) (hT : ∀ i, i + 1 < c → 0 ≤ ih_T (p i) (p (i + 1)) s) : ∀ d, j + d < c → 0 ≤ ih_T s (p j) (p (j + d)) := by
  intro d
  induction d with
  | zero =>
    intro _
    show 0 ≤ ih_T s (p j) (p j)
    have := ih_T1 s (p j)
    omega
  | succ d ih =>
    intro h
    have a1 := ih (by omega)
    have a2 := hT (j + d) (by omega)
    rw [← ih_cyc] at a2
    have e := ih_id5 f (p j) (p (j + d)) (p (j + d + 1)) s
    have f1 := hf j (by omega)
    have f2 := hf (j + d) (by omega)
    have f3 := hf (j + d + 1) (by omega)
    have m1 := Int.mul_nonneg (show 0 ≤ ih_L f s - ih_L f (p (j + d + 1)) by omega) a1
    have m2 := Int.mul_nonneg (show 0 ≤ ih_L f s - ih_L f (p j) by omega) a2
    exact ih_nn (show 0 < ih_L f s - ih_L f (p (j + d)) by omega) (by rw [show j + (d + 1) = j + d + 1 from rfl, e]; omega)
/-- a linear form takes its greatest value over the points at a corner -/
theorem ih_most {S : ih_V → Prop} {p : Nat → ih_V} {c : Nat} (hc : 2 ≤ c) (hE : ∀ i, i + 1 < c → ih_E S (p i) (p (i + 1))) (hZ : ih_E S (p (c - 1)) (p 0)) {f s : ih_V} (hs : S s) : ∃ i, i < c ∧ ih_L f s ≤ ih_L f (p i) := by
  apply Classical.byContradiction
  intro hno
  have hf : ∀ i, i < c → ih_L f (p i) < ih_L f s := fun i hi => Int.not_le.mp (fun z => hno ⟨i, hi, z⟩)
  have hT : ∀ i, i + 1 < c → 0 ≤ ih_T (p i) (p (i + 1)) s := fun i hi => by
    obtain ⟨l, _, h⟩ := hE i hi
    exact (h s hs).1
  have z1 : 0 ≤ ih_T (p (c - 1)) (p 0) s := by
    obtain ⟨l, _, h⟩ := hZ
    exact (h s hs).1
  rw [← ih_cyc] at z1
  have r0 := ih_rise (j := 0) hf hT (c - 1) (by omega)
  have r1 := ih_rise (j := 1) hf hT (c - 2) (by omega)
  rw [show 0 + (c - 1) = c - 1 by omega] at r0
  rw [show 1 + (c - 2) = c - 1 by omega] at r1
  have e0 : ih_T s (p 0) (p (c - 1)) = 0 := by
    rw [ih_swap] at z1
    omega
  have e5 := ih_id5 f (p 0) (p 1) (p (c - 1)) s
  rw [e0, Int.mul_zero] at e5
  have g0 := hT 0 (by omega)
  rw [← ih_cyc] at g0
  have f0 := hf 0 (by omega)
  have f1 := hf 1 (by omega)
  have fc := hf (c - 1) (by omega)
  have m1 := Int.mul_nonneg (show 0 ≤ ih_L f s - ih_L f (p (c - 1)) by omega) g0
  have m2 := Int.mul_nonneg (show 0 ≤ ih_L f s - ih_L f (p 0) by omega) r1
  have e1 : ih_T s (p 0) (p (0 + 1)) = 0 := ih_z0 (k := ih_L f s - ih_L f (p (c - 1))) (by omega) (by
    have : (0 : Nat) + 1 = 1 := rfl
    rw [this] at m1 ⊢
    omega)
  rw [ih_cyc] at e1
  obtain ⟨l, hl, h⟩ := hE 0 (by omega)
  obtain ⟨b1, b2⟩ := (h s hs).2 e1
  have c1 := ih_co1 l (p 0) (p (0 + 1)) s
  have c2 := ih_co2 l (p 0) (p (0 + 1)) s
  rw [e1, Int.mul_zero] at c1 c2
  have f1' : ih_L f (p (0 + 1)) < ih_L f s := f1
  generalize hk : ih_L l (p (0 + 1)) - ih_L l (p 0) = k at c1 c2
  generalize ht : ih_L l s - ih_L l (p 0) = t at c1 c2
  have q : k * (ih_L f s - ih_L f (p 0)) = t * (ih_L f (p (0 + 1)) - ih_L f (p 0)) := by
    unfold ih_L
    grind
  have s1 : 0 < k * (ih_L f s - ih_L f (p 0)) := Int.mul_pos (by omega) (by omega)
  have s2 : 0 < k * (ih_L f s - ih_L f (p (0 + 1))) := Int.mul_pos (by omega) (by omega)
  have s3 : 0 ≤ (k - t) * (ih_L f s - ih_L f (p 0)) := Int.mul_nonneg (by omega) (by omega)
  have s4 : 0 ≤ t * (ih_L f s - ih_L f (p (0 + 1))) := Int.mul_nonneg (by omega) (by omega)
  have s5 : (k - t) * (ih_L f s - ih_L f (p 0)) + t * (ih_L f s - ih_L f (p (0 + 1))) = 0 := by
    have : (k - t) * (ih_L f s - ih_L f (p 0)) + t * (ih_L f s - ih_L f (p (0 + 1))) = k * (ih_L f s - ih_L f (p 0)) - t * (ih_L f (p (0 + 1)) - ih_L f (p 0)) := by grind
    rw [this, q]
    omega
  have s6 : (k - t) * (ih_L f s - ih_L f (p 0)) = 0 := by omega
  have s7 : t * (ih_L f s - ih_L f (p (0 + 1))) = 0 := by omega
  rcases Int.mul_eq_zero.mp s6 with z | z
  · have : t = k := by omega
    rw [this] at s7
    omega
  · omega
end
section
/-- the chain from place f to place e over the points Pr so far -/
def ih_J (l : ih_V) (f e : Nat) (p : Nat → ih_V) (Pr : ih_V → Prop) : Prop :=
  f ≤ e ∧ (∀ i, f ≤ i → i ≤ e → Pr (p i)) ∧ (∀ i, f ≤ i → i < e → ih_Pair l Pr (p i) (p (i + 1))) ∧ (∀ q, Pr q → ih_L l (p f) ≤ ih_L l q ∧ ih_L l q ≤ ih_L l (p e))
/-- the chain while r waits behind it -/
def ih_M (l : ih_V) (f e : Nat) (p : Nat → ih_V) (Pr : ih_V → Prop) (r : ih_V) : Prop :=
  f ≤ e ∧ (∀ i, f ≤ i → i ≤ e → Pr (p i)) ∧ (∀ i, f ≤ i → i < e → ih_Pair l Pr (p i) (p (i + 1))) ∧ (∀ q, Pr q → ih_L l (p f) ≤ ih_L l q ∧ ih_L l q < ih_L l r) ∧ (∀ q, Pr q → ih_L l (p e) ≤ ih_L l q → 0 ≤ ih_T (p e) r q)
theorem ih_M0 {l : ih_V} {f e : Nat} {p : Nat → ih_V} {Pr : ih_V → Prop} {r : ih_V} (h : ih_J l f e p Pr) (hr : ∀ q, Pr q → ih_L l q < ih_L l r) (inj : ∀ q, Pr q → ih_L l q = ih_L l (p e) → q = p e) : ih_M l f e p Pr r := by
  obtain ⟨h1, h2, h3, h4⟩ := h
  refine ⟨h1, h2, h3, fun q hq => ⟨(h4 q hq).1, hr q hq⟩, fun q hq hl => ?_⟩
  rw [inj q hq (by have := (h4 q hq).2; omega)]
  have := ih_T0 (p e) r
  omega
theorem ih_Mpop {l : ih_V} {f e : Nat} {p : Nat → ih_V} {Pr : ih_V → Prop} {r : ih_V} (h : ih_M l f (e + 1) p Pr r) (hf : f ≤ e) (hT : ih_T (p e) (p (e + 1)) r ≤ 0) : ih_M l f e p Pr r := by
  obtain ⟨h1, h2, h3, h4, h5⟩ := h
  refine ⟨hf, fun i a b => h2 i a (by omega), fun i a b => h3 i a (by omega), h4, fun q hq hl => ?_⟩
  obtain ⟨p1, p2⟩ := h3 e hf (by omega)
  have lr := (h4 q hq).2
  have lt := (h4 _ (h2 (e + 1) (by omega) (by omega))).2
  by_cases c : ih_L l (p (e + 1)) ≤ ih_L l q
  · have i2 := ih_id2 l (p e) (p (e + 1)) r q
    have m1 := Int.mul_nonneg (show 0 ≤ ih_L l r - ih_L l (p e) by omega) (h5 q hq c)
    have m2 := Int.mul_nonneg (show 0 ≤ ih_L l r - ih_L l q by omega) (show 0 ≤ - ih_T (p e) (p (e + 1)) r by omega)
    rw [Int.mul_neg] at m2
    exact ih_nn (show 0 < ih_L l r - ih_L l (p (e + 1)) by omega) (by rw [i2]; omega)
  · have i3 := ih_id3 l (p e) (p (e + 1)) r q
    have m1 := Int.mul_nonneg (show 0 ≤ ih_L l r - ih_L l (p e) by omega) (p2 q hq).1
    have m2 := Int.mul_nonneg (show 0 ≤ ih_L l q - ih_L l (p e) by omega) (show 0 ≤ - ih_T (p e) (p (e + 1)) r by omega)
    rw [Int.mul_neg] at m2
    exact ih_nn (show 0 < ih_L l (p (e + 1)) - ih_L l (p e) by omega) (by rw [i3]; omega)
theorem ih_old {l : ih_V} {f e : Nat} {p : Nat → ih_V} {Pr : ih_V → Prop} {r : ih_V} (h : ih_M l f e p Pr r) (hx : f < e → 0 < ih_T (p (e - 1)) (p e) r) : ∀ d i, i + 1 + d = e → f ≤ i → 0 < ih_T (p i) (p (i + 1)) r := by
  intro d
  induction d with
  | zero =>
    intro i hi hf
    have := hx (by omega)
    rw [show e - 1 = i by omega, show e = i + 1 by omega] at this
    exact this
  | succ d ih =>
    intro i hi hf
    have a := ih (i + 1) (by omega) (by omega)
    obtain ⟨h1, h2, h3, h4, h5⟩ := h
    obtain ⟨p1, p2⟩ := h3 i hf (by omega)
    obtain ⟨p3, p4⟩ := h3 (i + 1) (by omega) (by omega)
    have k := p2 (p (i + 1 + 1)) (h2 (i + 1 + 1) (by omega) (by omega))
    have k1 : 0 < ih_T (p i) (p (i + 1)) (p (i + 1 + 1)) := by
      apply ih_ltne k.1
      intro z
      have := (k.2 z.symm).2
      omega
    have r1 := (h4 _ (h2 (i + 1) (by omega) (by omega))).2
    have i4 := ih_id4 l (p i) (p (i + 1)) (p (i + 1 + 1)) r
    have m1 := Int.mul_pos (show 0 < ih_L l r - ih_L l (p (i + 1)) by omega) k1
    have m2 := Int.mul_pos (show 0 < ih_L l (p (i + 1)) - ih_L l (p i) by omega) a
    exact ih_pp (show 0 < ih_L l (p (i + 1 + 1)) - ih_L l (p (i + 1)) by omega) (by rw [i4]; omega)
theorem ih_push {l : ih_V} {f e : Nat} {p : Nat → ih_V} {Pr : ih_V → Prop} {r : ih_V} (h : ih_M l f e p Pr r) (hx : f < e → 0 < ih_T (p (e - 1)) (p e) r) {p' : Nat → ih_V} {Pr' : ih_V → Prop} (hp : ∀ i, i ≤ e → p' i = p i) (hr : p' (e + 1) = r) (hP : ∀ q, Pr' q ↔ Pr q ∨ q = r) : ih_J l f (e + 1) p' Pr' := by
  have ho := ih_old h hx
  obtain ⟨h1, h2, h3, h4, h5⟩ := h
  have lt := (h4 _ (h2 e h1 (Nat.le_refl e))).2
  refine ⟨by omega, fun i a b => ?_, fun i a b => ?_, fun q hq => ?_⟩
  · by_cases c : i ≤ e
    · rw [hp i c]
      exact (hP _).mpr (Or.inl (h2 i a c))
    · rw [show i = e + 1 by omega, hr]
      exact (hP r).mpr (Or.inr rfl)
  · by_cases c : i < e
    · rw [hp i (by omega), hp (i + 1) (by omega)]
      obtain ⟨p1, p2⟩ := h3 i a c
      refine ⟨p1, fun q hq => ?_⟩
      rcases (hP q).mp hq with z | z
      · exact p2 q z
      · have o := ho (e - 1 - i) i (by omega) a
        rw [z]
        exact ⟨by omega, fun y => by omega⟩
    · have ei : i = e := by omega
      rw [ei, hp e (Nat.le_refl e), hr]
      refine ⟨lt, fun q hq => ?_⟩
      rcases (hP q).mp hq with z | z
      · have lq := (h4 q z).2
        have lf := (h4 q z).1
        by_cases c2 : ih_L l (p e) ≤ ih_L l q
        · exact ⟨h5 q z c2, fun _ => ⟨c2, by omega⟩⟩
        · have hfe : f < e := by
            apply Nat.lt_of_le_of_ne h1
            intro y
            rw [y] at lf
            exact c2 lf
          obtain ⟨p1, p2⟩ := h3 (e - 1) (by omega) (by omega)
          rw [show e - 1 + 1 = e by omega] at p1 p2
          have i1 := ih_id1 l (p (e - 1)) (p e) r q
          have m1 := Int.mul_nonneg (show 0 ≤ ih_L l r - ih_L l (p e) by omega) (p2 q z).1
          have m2 := Int.mul_pos (show 0 < ih_L l (p e) - ih_L l q by omega) (hx hfe)
          have := ih_pp (show 0 < ih_L l (p e) - ih_L l (p (e - 1)) by omega) (t := ih_T (p e) r q) (by rw [i1]; omega)
          exact ⟨by omega, fun y => by omega⟩
      · rw [z, ih_T1]
        exact ⟨Int.le_refl 0, fun _ => ⟨by omega, Int.le_refl _⟩⟩
  · rw [hp f h1, hr]
    rcases (hP q).mp hq with z | z
    · have := h4 q z
      exact ⟨by omega, by omega⟩
    · have := (h4 _ (h2 e h1 (Nat.le_refl e))).1
      rw [z]
      exact ⟨by omega, Int.le_refl _⟩
theorem ih_J0 {l : ih_V} {f : Nat} {p : Nat → ih_V} {Pr : ih_V → Prop} (hP : ∀ q, Pr q ↔ q = p f) : ih_J l f f p Pr := by
  refine ⟨Nat.le_refl f, fun i a b => ?_, fun i a b => ?_, fun q hq => ?_⟩
  · rw [show i = f by omega]
    exact (hP _).mpr rfl
  · omega
  · rw [(hP q).mp hq]
    exact ⟨Int.le_refl _, Int.le_refl _⟩
theorem ih_Jcg {l : ih_V} {f e : Nat} {p p' : Nat → ih_V} {Pr Pr' : ih_V → Prop} (h : ih_J l f e p Pr) (hp : ∀ i, f ≤ i → i ≤ e → p' i = p i) (hP : ∀ q, Pr' q ↔ Pr q) : ih_J l f e p' Pr' := by
  have eP : Pr' = Pr := funext fun q => propext (hP q)
  rw [eP]
  obtain ⟨h1, h2, h3, h4⟩ := h
  refine ⟨h1, fun i a b => ?_, fun i a b => ?_, fun q hq => ?_⟩
  · rw [hp i a b]
    exact h2 i a b
  · rw [hp i a (by omega), hp (i + 1) (by omega) (by omega)]
    exact h3 i a b
  · rw [hp f (Nat.le_refl f) h1, hp e h1 (Nat.le_refl e)]
    exact h4 q hq
theorem ih_Jmono {l : ih_V} {f e : Nat} {p : Nat → ih_V} {Pr : ih_V → Prop} (h : ih_J l f e p Pr) {i : Nat} (hi : f ≤ i) : ∀ d, i + d + 1 ≤ e → ih_L l (p i) < ih_L l (p (i + d + 1)) := by
  intro d
  induction d with
  | zero => intro hd; exact (h.2.2.1 i hi (by omega)).1
  | succ d ih =>
    intro hd
    have a := ih (by omega)
    have b := (h.2.2.1 (i + d + 1) (by omega) (by omega)).1
    rw [show i + (d + 1) + 1 = i + d + 1 + 1 by omega]
    omega
theorem ih_Jlt {l : ih_V} {f e : Nat} {p : Nat → ih_V} {Pr : ih_V → Prop} (h : ih_J l f e p Pr) {i j : Nat} (hi : f ≤ i) (hij : i < j) (hj : j ≤ e) : ih_L l (p i) < ih_L l (p j) := by
  have := ih_Jmono h hi (j - i - 1) (by omega)
  rw [show i + (j - i - 1) + 1 = j by omega] at this
  exact this
/-- what the taking back has done: d of c places are left -/
def ih_R (f c d : Nat) (p : Nat → ih_V) (r : ih_V) : Prop :=
  d ≤ c ∧ (∀ j, d ≤ j → j < c → f + 1 ≤ j ∧ ih_T (p (j - 1)) (p j) r ≤ 0) ∧ (f + 2 ≤ d → 0 < ih_T (p (d - 2)) (p (d - 1)) r)
theorem ih_pops {l : ih_V} {f : Nat} {p : Nat → ih_V} {Pr : ih_V → Prop} {r : ih_V} : ∀ k d, f + 1 ≤ d → ih_M l f (d + k - 1) p Pr r → (∀ j, d ≤ j → j < d + k → f + 1 ≤ j ∧ ih_T (p (j - 1)) (p j) r ≤ 0) → ih_M l f (d - 1) p Pr r := by
  intro k
  induction k with
  | zero => intro d _ h _; exact h
  | succ k ih =>
    intro d hd h hj
    refine ih d hd ?_ (fun j a b => hj j a (by omega))
    have e : d + (k + 1) - 1 = d + k - 1 + 1 := by omega
    rw [e] at h
    obtain ⟨_, t⟩ := hj (d + k) (by omega) (by omega)
    rw [show d + k = d + k - 1 + 1 by omega] at t
    exact ih_Mpop h (by omega) (by rw [show d + k - 1 + 1 - 1 = d + k - 1 by omega] at t; exact t)
/-- one point more on the chain -/
theorem ih_ext {l : ih_V} {f c d : Nat} {p p' : Nat → ih_V} {Pr Pr' : ih_V → Prop} {r : ih_V} (h : ih_J l f (c - 1) p Pr) (hc : f + 1 ≤ c) (hr : ∀ q, Pr q → ih_L l q < ih_L l r) (inj : ∀ q, Pr q → ih_L l q = ih_L l (p (c - 1)) → q = p (c - 1)) (hR : ih_R f c d p r) (hp : ∀ i, i < d → p' i = p i) (hr' : p' d = r) (hP : ∀ q, Pr' q ↔ Pr q ∨ q = r) : f + 1 ≤ d ∧ ih_J l f d p' Pr' := by
  obtain ⟨r1, r2, r3⟩ := hR
  have hd : f + 1 ≤ d := by
    apply Nat.not_lt.mp
    intro z
    have := (r2 d (Nat.le_refl d) (by omega)).1
    omega
  have m := ih_M0 h hr inj
  have m2 := ih_pops (l := l) (p := p) (Pr := Pr) (r := r) (c - d) d hd (by rw [show d + (c - d) - 1 = c - 1 by omega]; exact m) (fun j a b => r2 j a (by omega))
  refine ⟨hd, ?_⟩
  have := ih_push m2 (fun z => by
    have := r3 (by omega)
    rw [show d - 1 - 1 = d - 2 by omega]
    exact this) (p' := p') (Pr' := Pr') (fun i a => hp i (by omega)) (by rw [show d - 1 + 1 = d by omega]; exact hr') hP
  rw [show d - 1 + 1 = d by omega] at this
  exact this
end
section
/-- the points of the columns: column x holds y with mm x ≤ y < hh x -/
def ih_S (mm hh : Nat → Nat) (q : ih_V) : Prop := ∃ x y : Nat, x ≤ 40 ∧ mm x ≤ y ∧ y < hh x ∧ q = ((x : Int), (y : Int))
/-- the columns: none above 40 -/
def ih_C (mm hh : Nat → Nat) : Prop := ∀ x, x ≤ 40 → hh x ≤ 41
def ih_PL (mm hh : Nat → Nat) (x : Nat) (q : ih_V) : Prop := ∃ j : Nat, j < x ∧ mm j < hh j ∧ q = ((j : Int), (mm j : Int))
def ih_PU (mm hh : Nat → Nat) (xr k : Nat) (q : ih_V) : Prop := q = ((xr : Int), (mm xr : Int)) ∨ ∃ j : Nat, k ≤ j ∧ j ≤ 40 ∧ mm j < hh j ∧ q = ((j : Int), (hh j : Int) - 1)
def ih_IL (mm hh : Nat → Nat) (x c : Nat) (p : Nat → ih_V) : Prop :=
  (c = 0 ∧ ∀ j, j < x → ¬ mm j < hh j) ∨ (1 ≤ c ∧ c ≤ x ∧ ih_J (1, 0) 0 (c - 1) p (ih_PL mm hh x))
theorem ih_L10 (a : ih_V) : ih_L (1, 0) a = a.1 := by
  simp only [ih_L]
  omega
theorem ih_Lup (a : ih_V) : ih_L (-100, 1) a = a.2 - 100 * a.1 := by
  simp only [ih_L]
  omega
theorem ih_IL0 {mm hh : Nat → Nat} {p : Nat → ih_V} : ih_IL mm hh 0 0 p := Or.inl ⟨rfl, fun j h => absurd h (Nat.not_lt_zero j)⟩
theorem ih_ILe {mm hh : Nat → Nat} {x c : Nat} {p : Nat → ih_V} (h : ih_IL mm hh x c p) (hn : ¬ mm x < hh x) : ih_IL mm hh (x + 1) c p := by
  rcases h with ⟨h1, h2⟩ | ⟨h1, h2, h3⟩
  · refine Or.inl ⟨h1, fun j hj => ?_⟩
    by_cases e : j = x
    · rw [e]; exact hn
    · exact h2 j (by omega)
  · refine Or.inr ⟨h1, by omega, ih_Jcg h3 (fun _ _ _ => rfl) (fun q => ⟨?_, ?_⟩)⟩
    · rintro ⟨j, a, b, e⟩
      refine ⟨j, ?_, b, e⟩
      apply Nat.lt_of_le_of_ne (by omega)
      intro z
      rw [z] at b
      exact hn b
    · rintro ⟨j, a, b, e⟩
      exact ⟨j, by omega, b, e⟩
theorem ih_ILs {mm hh : Nat → Nat} {x c d : Nat} {p p' : Nat → ih_V} (h : ih_IL mm hh x c p) (hn : mm x < hh x) (hR : ih_R 0 c d p ((x : Int), (mm x : Int))) (hp : ∀ i, i < d → p' i = p i) (hr : p' d = ((x : Int), (mm x : Int))) : ih_IL mm hh (x + 1) (d + 1) p' := by
  rcases h with ⟨h1, h2⟩ | ⟨h1, h2, h3⟩
  · have d0 : d = 0 := by have := hR.1; omega
    rw [d0] at hr ⊢
    refine Or.inr ⟨by omega, by omega, ih_J0 (fun q => ⟨?_, ?_⟩)⟩
    · rintro ⟨j, a, b, e⟩
      rw [hr, e]
      have : j = x := by
        apply Classical.byContradiction
        intro z
        exact h2 j (by omega) b
      rw [this]
    · intro e
      exact ⟨x, by omega, hn, by rw [e, hr]⟩
  · have hP : ∀ q, ih_PL mm hh (x + 1) q ↔ ih_PL mm hh x q ∨ q = ((x : Int), (mm x : Int)) := fun q => by
      constructor
      · rintro ⟨j, a, b, e⟩
        by_cases z : j = x
        · exact Or.inr (by rw [e, z])
        · exact Or.inl ⟨j, by omega, b, e⟩
      · rintro (⟨j, a, b, e⟩ | e)
        · exact ⟨j, by omega, b, e⟩
        · exact ⟨x, by omega, hn, e⟩
    have h4 := ih_ext (Pr' := ih_PL mm hh (x + 1)) h3 (by omega) (fun q hq => by
      obtain ⟨j, a, b, e⟩ := hq
      rw [ih_L10, ih_L10, e]
      dsimp only
      omega) (fun q hq hl => by
      obtain ⟨j, a, b, e⟩ := hq
      obtain ⟨j', a', b', e'⟩ := h3.2.1 (c - 1) (by omega) (by omega)
      rw [ih_L10, ih_L10, e, e'] at hl
      dsimp only at hl
      have : j = j' := by omega
      rw [e, e', this]) hR hp hr hP
    have := hR.1
    exact Or.inr ⟨by omega, by omega, by rw [show d + 1 - 1 = d by omega]; exact h4.2⟩
/-- the way back: columns from k on are done -/
def ih_IU (mm hh : Nat → Nat) (f xr k c : Nat) (p : Nat → ih_V) : Prop :=
  p f = ((xr : Int), (mm xr : Int)) ∧ mm xr < hh xr ∧ xr ≤ 40 ∧ (∀ j, xr < j → j ≤ 40 → ¬ mm j < hh j) ∧ f + 1 ≤ c ∧ c ≤ f + 1 + (41 - k) ∧
  ((xr < k ∧ c = f + 1) ∨
   (k ≤ xr ∧ c = f + 2 ∧ p (f + 1) = p f ∧ hh xr = mm xr + 1 ∧ ∀ j, k ≤ j → j < xr → ¬ mm j < hh j) ∨
   (k ≤ xr ∧ f + 2 ≤ c ∧ ih_J (-100, 1) f (c - 1) p (ih_PU mm hh xr k)))
theorem ih_IU0 {mm hh : Nat → Nat} {c : Nat} {p : Nat → ih_V} (h : ih_IL mm hh 41 c p) (hc : 1 ≤ c) : ∃ xr, ih_IU mm hh (c - 1) xr 41 c p := by
  rcases h with ⟨h1, h2⟩ | ⟨h1, h2, h3⟩
  · omega
  · obtain ⟨j, a, b, e⟩ := h3.2.1 (c - 1) (by omega) (by omega)
    refine ⟨j, e, b, by omega, fun i hi hi' hn => ?_, by omega, by omega, Or.inl ⟨by omega, by omega⟩⟩
    have := (h3.2.2.2 ((i : Int), (mm i : Int)) ⟨i, by omega, hn, rfl⟩).2
    rw [ih_L10, ih_L10, e] at this
    dsimp only at this
    omega
theorem ih_IUe {mm hh : Nat → Nat} {f xr k c : Nat} {p : Nat → ih_V} (hk : k ≤ 40) (h : ih_IU mm hh f xr (k + 1) c p) (hn : ¬ mm k < hh k) : ih_IU mm hh f xr k c p := by
  obtain ⟨h1, h2, h3, h4, h5, h6, h7⟩ := h
  have nk : xr ≠ k := by
    intro z
    rw [z] at h2
    exact hn h2
  refine ⟨h1, h2, h3, h4, h5, by omega, ?_⟩
  rcases h7 with ⟨a, b⟩ | ⟨a, b, c1, d, e⟩ | ⟨a, b, j⟩
  · exact Or.inl ⟨by omega, b⟩
  · refine Or.inr (Or.inl ⟨by omega, b, c1, d, fun j h1 h2 => ?_⟩)
    by_cases z : j = k
    · rw [z]; exact hn
    · exact e j (by omega) h2
  · refine Or.inr (Or.inr ⟨by omega, b, ih_Jcg j (fun _ _ _ => rfl) (fun q => ⟨?_, ?_⟩)⟩)
    · rintro (e | ⟨j, a, b, c, e⟩)
      · exact Or.inl e
      · refine Or.inr ⟨j, ?_, b, c, e⟩
        apply Nat.lt_of_le_of_ne a
        intro z
        rw [← z] at c
        exact hn c
    · rintro (e | ⟨j, a, b, c, e⟩)
      · exact Or.inl e
      · exact Or.inr ⟨j, by omega, b, c, e⟩
/-- a first point of the way back that is not the turning point itself, or a later one -/
theorem ih_IUn {mm hh : Nat → Nat} (hC : ih_C mm hh) {f xr k : Nat} {p p' : Nat → ih_V} (h1 : p f = ((xr : Int), (mm xr : Int))) (h2 : mm xr < hh xr) (h3 : xr ≤ 40) (hk : k ≤ xr) (hn : mm k < hh k) (hv : k = xr → hh k ≠ mm k + 1) (hP : ∀ q, ih_PU mm hh xr k q ↔ q = p f ∨ q = ((k : Int), (hh k : Int) - 1)) (hp : ∀ i, i < f + 1 → p' i = p i) (hr : p' (f + 1) = ((k : Int), (hh k : Int) - 1)) : ih_J (-100, 1) f (f + 1) p' (ih_PU mm hh xr k) := by
  have cx := hC xr h3
  have ck := hC k (by omega)
  have := ih_ext (l := (-100, 1)) (f := f) (c := f + 1) (d := f + 1) (p := p) (p' := p') (Pr := fun q => q = p f) (Pr' := ih_PU mm hh xr k) (r := ((k : Int), (hh k : Int) - 1)) (ih_J0 (fun q => Iff.rfl)) (Nat.le_refl _) (fun q hq => by
    have hq' : q = p f := hq
    rw [hq', h1, ih_Lup, ih_Lup]
    dsimp only
    by_cases z : k = xr
    · have := hv z
      rw [← z]
      omega
    · omega) (fun q hq _ => hq) ⟨Nat.le_refl _, fun j a b => by omega, fun z => by omega⟩ hp hr hP
  exact this.2
theorem ih_IUs {mm hh : Nat → Nat} (hC : ih_C mm hh) {f xr k c d : Nat} {p p' : Nat → ih_V} (hk : k ≤ 40) (h : ih_IU mm hh f xr (k + 1) c p) (hn : mm k < hh k) (hR : ih_R f c d p ((k : Int), (hh k : Int) - 1)) (hp : ∀ i, i < d → p' i = p i) (hr : p' d = ((k : Int), (hh k : Int) - 1)) : f + 1 ≤ d ∧ ih_IU mm hh f xr k (d + 1) p' := by
  obtain ⟨h1, h2, h3, h4, h5, h6, h7⟩ := h
  have kx : k ≤ xr := by
    apply Nat.not_lt.mp
    intro z
    exact h4 k z hk hn
  have hd : f + 1 ≤ d := by
    apply Nat.not_lt.mp
    intro z
    have := (hR.2.1 d (Nat.le_refl d) (by omega)).1
    omega
  have dc := hR.1
  refine ⟨hd, by rw [hp f (by omega)]; exact h1, h2, h3, h4, by omega, by omega, ?_⟩
  rcases h7 with ⟨a, b⟩ | ⟨a, b, c1, e1, e⟩ | ⟨a, b, j⟩
  · have ek : k = xr := by omega
    have ed : d = f + 1 := by omega
    rw [ed] at hr hp ⊢
    by_cases z : hh k = mm k + 1
    · refine Or.inr (Or.inl ⟨by omega, rfl, ?_, by rw [← ek]; exact z, fun j h1 h2 => by omega⟩)
      rw [hr, hp f (by omega), h1, z, ek]
      exact Prod.ext rfl (show ((mm xr + 1 : Nat) : Int) - 1 = (mm xr : Int) by omega)
    · refine Or.inr (Or.inr ⟨by omega, by omega, ?_⟩)
      rw [show f + 1 + 1 - 1 = f + 1 by omega]
      apply ih_IUn hC h1 h2 h3 kx hn (fun _ => z) (fun q => ?_) hp hr
      rw [h1]
      constructor
      · rintro (y | ⟨j, a, b, c, y⟩)
        · exact Or.inl y
        · have : j = k := by
            apply Classical.byContradiction
            intro w
            exact h4 j (by omega) b c
          rw [this] at y
          exact Or.inr y
      · rintro (y | y)
        · exact Or.inl y
        · exact Or.inr ⟨k, Nat.le_refl k, hk, hn, y⟩
  · have kl : k < xr := by omega
    have ed : d = f + 1 := by
      apply Classical.byContradiction
      intro z
      have := hR.2.2 (by omega)
      rw [show d - 2 = f by omega, show d - 1 = f + 1 by omega, c1, ih_T2] at this
      omega
    rw [ed] at hr hp ⊢
    refine Or.inr (Or.inr ⟨by omega, by omega, ?_⟩)
    rw [show f + 1 + 1 - 1 = f + 1 by omega]
    apply ih_IUn hC h1 h2 h3 kx hn (fun z => by omega) (fun q => ?_) hp hr
    rw [h1]
    constructor
    · rintro (y | ⟨j, a, b, c, y⟩)
      · exact Or.inl y
      · by_cases w : j = k
        · rw [w] at y
          exact Or.inr y
        · have w2 : j = xr := by
            apply Classical.byContradiction
            intro w3
            by_cases w4 : j < xr
            · exact e j (by omega) w4 c
            · exact h4 j (by omega) b c
          refine Or.inl ?_
          rw [y, w2, e1]
          exact Prod.ext rfl (show ((mm xr + 1 : Nat) : Int) - 1 = (mm xr : Int) by omega)
    · rintro (y | y)
      · exact Or.inl y
      · exact Or.inr ⟨k, Nat.le_refl k, hk, hn, y⟩
  · refine Or.inr (Or.inr ⟨by omega, by omega, ?_⟩)
    rw [show d + 1 - 1 = d by omega]
    have cx := hC xr h3
    have ck := hC k hk
    refine (ih_ext (Pr' := ih_PU mm hh xr k) j h5 (fun q hq => ?_) (fun q hq hl => ?_) hR hp hr (fun q => ⟨?_, ?_⟩)).2
    · rw [ih_Lup, ih_Lup]
      rcases hq with y | ⟨j, a, b, c, y⟩
      · rw [y]
        dsimp only
        omega
      · have := hC j b
        rw [y]
        dsimp only
        omega
    · have hq2 := j.2.1 (c - 1) (by omega) (by omega)
      rw [ih_Lup, ih_Lup] at hl
      generalize p (c - 1) = q' at hl hq2 ⊢
      rcases hq with y | ⟨j, a, b, c, y⟩
      · rcases hq2 with y' | ⟨j', a', b', c', y'⟩
        · rw [y, y']
        · have := hC j' b'
          rw [y, y'] at hl ⊢
          dsimp only at hl
          have w : xr = j' := by omega
          rw [← w] at hl ⊢
          exact Prod.ext rfl (show (mm xr : Int) = (hh xr : Int) - 1 by omega)
      · have := hC j b
        rcases hq2 with y' | ⟨j', a', b', c', y'⟩
        · rw [y, y'] at hl ⊢
          dsimp only at hl
          have w : xr = j := by omega
          rw [← w] at hl ⊢
          exact Prod.ext rfl (show (hh xr : Int) - 1 = (mm xr : Int) by omega)
        · have := hC j' b'
          rw [y, y'] at hl ⊢
          dsimp only at hl
          have w : j = j' := by omega
          rw [w]
    · rintro (y | ⟨j, a, b, c, y⟩)
      · exact Or.inl (Or.inl y)
      · by_cases w : j = k
        · rw [w] at y
          exact Or.inr y
        · exact Or.inl (Or.inr ⟨j, by omega, b, c, y⟩)
    · rintro ((y | ⟨j, a, b, c, y⟩) | y)
      · exact Or.inl y
      · exact Or.inr ⟨j, by omega, b, c, y⟩
      · exact Or.inr ⟨k, Nat.le_refl k, hk, hn, y⟩
end
section
/-- the corners in a ring around the points S -/
def ih_HC (S : ih_V → Prop) (c : Nat) (p : Nat → ih_V) : Prop :=
  c ≤ 82 ∧ (∀ i, i < c → S (p i)) ∧ (c = 0 → ∀ q, ¬ S q) ∧ (c = 1 → ∀ q, S q → q = p 0) ∧
  (2 ≤ c → (∀ i, i + 1 < c → ih_E S (p i) (p (i + 1))) ∧ ih_E S (p (c - 1)) (p 0)) ∧
  (∀ i, 0 < i → i < c → p i ≠ p 0) ∧ (∀ q, 0 < c → S q → (p 0).1 < q.1 ∨ ((p 0).1 = q.1 ∧ (p 0).2 ≤ q.2))
theorem ih_Elow {mm hh : Nat → Nat} {a b : ih_V} (h : ih_Pair (1, 0) (ih_PL mm hh 41) a b) : ih_E (ih_S mm hh) a b := by
  obtain ⟨h1, h2⟩ := h
  refine ⟨(1, 0), h1, fun q hq => ?_⟩
  obtain ⟨x, y, hx, hy1, hy2, rfl⟩ := hq
  obtain ⟨g1, g2⟩ := h2 ((x : Int), (mm x : Int)) ⟨x, by omega, by omega, rfl⟩
  have e : ih_T a b ((x : Int), (y : Int)) = ih_T a b ((x : Int), (mm x : Int)) + (b.1 - a.1) * ((y : Int) - (mm x : Int)) := by
    simp only [ih_T]
    grind
  rw [ih_L10, ih_L10] at h1
  have m := Int.mul_nonneg (show 0 ≤ b.1 - a.1 by omega) (show 0 ≤ (y : Int) - (mm x : Int) by omega)
  refine ⟨by omega, fun z => ?_⟩
  have := g2 (by omega)
  rw [ih_L10, ih_L10, ih_L10] at this ⊢
  exact this
theorem ih_Eup {mm hh : Nat → Nat} (hC : ih_C mm hh) {xr : Nat} (hx : xr ≤ 40) (hn : mm xr < hh xr) {a b : ih_V} (ha : ih_PU mm hh xr 0 a) (hb : ih_PU mm hh xr 0 b) (h : ih_Pair (-100, 1) (ih_PU mm hh xr 0) a b) : ih_E (ih_S mm hh) a b := by
  obtain ⟨h1, h2⟩ := h
  have cx := hC xr hx
  have bnd : ∀ q, ih_PU mm hh xr 0 q → 0 ≤ q.2 ∧ q.2 ≤ 40 := by
    rintro q (y | ⟨j, a, b, c, y⟩)
    · rw [y]
      dsimp only
      omega
    · have := hC j b
      rw [y]
      dsimp only
      omega
  have ba := bnd a ha
  have bb := bnd b hb
  have h1' := h1
  rw [ih_Lup, ih_Lup] at h1'
  refine ⟨(-100, 1), h1, fun q hq => ?_⟩
  obtain ⟨x, y, hx', hy1, hy2, rfl⟩ := hq
  obtain ⟨g1, g2⟩ := h2 ((x : Int), (hh x : Int) - 1) (Or.inr ⟨x, by omega, hx', by omega, rfl⟩)
  have e : ih_T a b ((x : Int), (y : Int)) = ih_T a b ((x : Int), (hh x : Int) - 1) + (a.1 - b.1) * ((hh x : Int) - 1 - (y : Int)) := by
    simp only [ih_T]
    grind
  have m := Int.mul_nonneg (show 0 ≤ a.1 - b.1 by omega) (show 0 ≤ (hh x : Int) - 1 - (y : Int) by omega)
  refine ⟨by omega, fun z => ?_⟩
  have z1 : ih_T a b ((x : Int), (hh x : Int) - 1) = 0 := by omega
  have z2 : (a.1 - b.1) * ((hh x : Int) - 1 - (y : Int)) = 0 := by omega
  have g3 := g2 z1
  by_cases w : (y : Int) = (hh x : Int) - 1
  · rw [w]
    exact g3
  · have w1 : a.1 - b.1 = 0 := by
      rcases Int.mul_eq_zero.mp z2 with t | t
      · exact t
      · omega
    have w2 : a.2 < b.2 := by omega
    have z3 : (b.2 - a.2) * (a.1 - (x : Int)) = 0 := by
      have : ih_T a b ((x : Int), (y : Int)) = (b.2 - a.2) * (a.1 - (x : Int)) + (b.1 - a.1) * ((y : Int) - a.2) := by
        simp only [ih_T]
        grind
      rw [show b.1 - a.1 = 0 by omega, Int.zero_mul] at this
      omega
    have w3 : a.1 = (x : Int) := by
      rcases Int.mul_eq_zero.mp z3 with t | t
      · omega
      · omega
    rw [ih_Lup, ih_Lup, ih_Lup]
    dsimp only
    rcases ha with ya | ⟨ja, a1, a2, a3, ya⟩
    · rcases hb with yb | ⟨jb, b1, b2, b3, yb⟩
      · rw [ya, yb] at w2
        omega
      · rw [ya] at w1 w2 w3 ⊢
        rw [yb] at w1 w2 ⊢
        dsimp only at w1 w2 w3 ⊢
        have t1 : x = xr := by omega
        have t2 : jb = xr := by omega
        rw [t1] at hy1 hy2
        rw [t1, t2]
        omega
    · rcases hb with yb | ⟨jb, b1, b2, b3, yb⟩
      · rw [ya, yb] at w1 w2
        dsimp only at w1 w2
        have t1 : ja = xr := by omega
        rw [t1] at w2
        omega
      · rw [ya, yb] at w1 w2
        dsimp only at w1 w2
        have t1 : ja = jb := by omega
        rw [t1] at w2
        omega
theorem ih_PLS {mm hh : Nat → Nat} {q : ih_V} (h : ih_PL mm hh 41 q) : ih_S mm hh q := by
  obtain ⟨j, a, b, e⟩ := h
  exact ⟨j, mm j, by omega, Nat.le_refl _, b, e⟩
theorem ih_PUS {mm hh : Nat → Nat} {xr : Nat} (hx : xr ≤ 40) (hn : mm xr < hh xr) {q : ih_V} (h : ih_PU mm hh xr 0 q) : ih_S mm hh q := by
  rcases h with y | ⟨j, a, b, c, y⟩
  · exact ⟨xr, mm xr, hx, Nat.le_refl _, hn, y⟩
  · refine ⟨j, hh j - 1, b, by omega, by omega, ?_⟩
    rw [y]
    exact Prod.ext rfl (show (hh j : Int) - 1 = ((hh j - 1 : Nat) : Int) by omega)
theorem ih_fin {mm hh : Nat → Nat} (hC : ih_C mm hh) {f xr c c' : Nat} {p : Nat → ih_V} (hf : f ≤ 40) (lo : ih_J (1, 0) 0 f p (ih_PL mm hh 41)) (iu : ih_IU mm hh f xr 0 c p) (hc : (0 < c - 1 ∧ p (c - 1) = p 0 ∧ c' = c - 1) ∨ (¬ (0 < c - 1 ∧ p (c - 1) = p 0) ∧ c' = c)) : ih_HC (ih_S mm hh) c' p := by
  obtain ⟨h1, h2, h3, h4, h5, h6, h7⟩ := iu
  obtain ⟨xl, l1, l2, l3⟩ := lo.2.1 0 (Nat.le_refl 0) (Nat.zero_le f)
  have lmin : ∀ j, j ≤ 40 → mm j < hh j → xl ≤ j := fun j hj hn => by
    have := (lo.2.2.2 ((j : Int), (mm j : Int)) ⟨j, by omega, hn, rfl⟩).1
    rw [ih_L10, ih_L10, l3] at this
    dsimp only at this
    omega
  have first : ∀ q, ih_S mm hh q → (p 0).1 < q.1 ∨ ((p 0).1 = q.1 ∧ (p 0).2 ≤ q.2) := by
    rintro q ⟨x, y, hx, hy1, hy2, rfl⟩
    have := lmin x hx (by omega)
    rw [l3]
    dsimp only
    by_cases w : xl = x
    · refine Or.inr ⟨by omega, ?_⟩
      rw [w]
      omega
    · exact Or.inl (by omega)
  have nlow : ∀ i, 0 < i → i ≤ f → p i ≠ p 0 := fun i hi hif e => by
    have := ih_Jlt lo (Nat.le_refl 0) hi hif
    rw [e] at this
    omega
  rcases h7 with ⟨a, b⟩ | ⟨a, b, c1, e1, e⟩ | ⟨a, b, j⟩
  · omega
  · have only : ∀ i, i ≤ 40 → mm i < hh i → i = xr := fun i hi hn => by
      apply Classical.byContradiction
      intro z
      by_cases w : i < xr
      · exact e i (Nat.zero_le i) w hn
      · exact h4 i (by omega) hi hn
    have f0 : f = 0 := by
      apply Classical.byContradiction
      intro z
      obtain ⟨j1, q1, q2, q3⟩ := lo.2.1 1 (by omega) (by omega)
      refine nlow 1 (by omega) (by omega) ?_
      rw [q3, l3, only j1 (by omega) q2, only xl (by omega) l2]
    have c2 : c' = 1 := by
      rcases hc with ⟨_, _, z⟩ | ⟨z, _⟩
      · omega
      · exfalso
        apply z
        refine ⟨by omega, ?_⟩
        rw [f0] at c1
        rw [show c - 1 = 0 + 1 by omega]
        exact c1
    have one : ∀ q, ih_S mm hh q → q = p 0 := by
      rintro q ⟨x, y, hx, hy1, hy2, rfl⟩
      have t := only x hx (by omega)
      have t' := only xl (by omega) l2
      rw [t] at hy1 hy2
      rw [l3, t, t']
      exact Prod.ext rfl (show (y : Int) = (mm xr : Int) by omega)
    rw [c2]
    refine ⟨by omega, fun i hi => ?_, fun z => by omega, fun _ => one, fun z => by omega, fun i z1 z2 => by omega, fun q _ hq => first q hq⟩
    rw [show i = 0 by omega]
    exact ih_PLS ⟨xl, l1, l2, l3⟩
  · have fl : ih_L (-100, 1) (p f) < ih_L (-100, 1) (p (c - 1)) := ih_Jlt j (Nat.le_refl f) (by omega) (Nat.le_refl _)
    have cl := hC xl (by omega)
    have pe : p (c - 1) = ((xl : Int), (hh xl : Int) - 1) := by
      have mx := (j.2.2.2 ((xl : Int), (hh xl : Int) - 1) (Or.inr ⟨xl, Nat.zero_le _, by omega, l2, rfl⟩)).2
      rcases j.2.1 (c - 1) (by omega) (Nat.le_refl _) with y | ⟨i, a1, a2, a3, y⟩
      · rw [h1, y] at fl
        omega
      · have ci := hC i a2
        have li := lmin i a2 a3
        rw [y, ih_Lup, ih_Lup] at mx
        dsimp only at mx
        have w : i = xl := by omega
        rw [y, w]
    have Elo : ∀ i, i < f → ih_E (ih_S mm hh) (p i) (p (i + 1)) := fun i hi => ih_Elow (lo.2.2.1 i (Nat.zero_le i) hi)
    have Eup : ∀ i, f ≤ i → i < c - 1 → ih_E (ih_S mm hh) (p i) (p (i + 1)) := fun i hi hi' => ih_Eup hC h3 h2 (j.2.1 i hi (by omega)) (j.2.1 (i + 1) (by omega) (by omega)) (j.2.2.1 i hi hi')
    have Eall : ∀ i, i < c - 1 → ih_E (ih_S mm hh) (p i) (p (i + 1)) := fun i hi => by
      by_cases w : i < f
      · exact Elo i w
      · exact Eup i (by omega) hi
    have Sall : ∀ i, i < c → ih_S mm hh (p i) := fun i hi => by
      by_cases w : i ≤ f
      · exact ih_PLS (lo.2.1 i (Nat.zero_le i) w)
      · exact ih_PUS h3 h2 (j.2.1 i (by omega) (by omega))
    rcases hc with ⟨z1, z2, z3⟩ | ⟨z1, z3⟩
    · have c3 : 2 ≤ c' := by
        apply Nat.not_lt.mp
        intro w
        have t1 : f = 0 := by omega
        rw [z2, t1] at fl
        omega
      rw [z3] at c3 ⊢
      refine ⟨by omega, fun i hi => Sall i (by omega), fun z => by omega, fun z => by omega, fun _ => ⟨fun i hi => Eall i (by omega), ?_⟩, fun i i1 i2 => ?_, fun q _ hq => first q hq⟩
      · have := Eall (c - 1 - 1) (by omega)
        rw [show c - 1 - 1 + 1 = c - 1 by omega, z2] at this
        exact this
      · by_cases w : i ≤ f
        · exact nlow i i1 w
        · intro t
          have := ih_Jlt j (i := i) (j := c - 1) (by omega) (by omega) (Nat.le_refl _)
          rw [t, z2] at this
          omega
    · rw [z3]
      have ne : p (c - 1) ≠ p 0 := fun t => z1 ⟨by omega, t⟩
      have gt : mm xl < hh xl - 1 := by
        apply Nat.not_le.mp
        intro t
        apply ne
        rw [pe, l3]
        exact Prod.ext rfl (show (hh xl : Int) - 1 = (mm xl : Int) by omega)
      refine ⟨by omega, Sall, fun z => by omega, fun z => by omega, fun _ => ⟨fun i hi => Eall i (by omega), ?_⟩, fun i i1 i2 => ?_, fun q _ hq => first q hq⟩
      · rw [pe, l3]
        refine ⟨(0, -1), ?_, ?_⟩
        · simp only [ih_L]
          omega
        · rintro q ⟨x, y, hx, hy1, hy2, rfl⟩
          have lx := lmin x hx (by omega)
          have e : ih_T ((xl : Int), (hh xl : Int) - 1) ((xl : Int), (mm xl : Int)) ((x : Int), (y : Int)) = ((hh xl : Int) - 1 - (mm xl : Int)) * ((x : Int) - (xl : Int)) := by
            simp only [ih_T]
            grind
          rw [e]
          refine ⟨Int.mul_nonneg (by omega) (by omega), fun t => ?_⟩
          have t2 : (x : Int) - (xl : Int) = 0 := ih_z0 (by omega) t
          have t3 : x = xl := by omega
          rw [t3] at hy1 hy2
          simp only [ih_L]
          omega
      · by_cases w : i ≤ f
        · exact nlow i i1 w
        · intro t
          rcases j.2.1 i (by omega) (by omega) with y | ⟨k, a1, a2, a3, y⟩
          · have := ih_Jlt j (i := f) (j := i) (Nat.le_refl f) (by omega) (by omega)
            rw [y, h1] at this
            omega
          · rw [y, l3] at t
            have t1 : (k : Int) = (xl : Int) := congrArg Prod.fst t
            have t2 : (hh k : Int) - 1 = (mm xl : Int) := congrArg Prod.snd t
            have t3 : k = xl := by omega
            rw [t3] at t2
            omega
end
section
def ih_p (cx cy : Nat → Int32) (i : Nat) : ih_V := ((cx i).toInt, (cy i).toInt)
/-- all n conditions hold at (x, y) -/
def ih_K (n : Nat) (A B C : Nat → Int32) (x y : Nat) : Prop := ∀ i, i < n → A i * nI x + B i * nI y ≤ C i
def ih_Rg (n : Nat) (A B : Nat → Int32) : Prop := ∀ i, i < n → (-100 ≤ (A i).toInt ∧ (A i).toInt ≤ 100) ∧ (-100 ≤ (B i).toInt ∧ (B i).toInt ≤ 100)
theorem ih_conv {n : Nat} {A B C : Nat → Int32} {x y1 y2 y3 : Nat} (h : ih_Rg n A B) (hx : x ≤ 40) (h3 : y3 ≤ 40) (h12 : y1 ≤ y2) (h23 : y2 ≤ y3) (k1 : ih_K n A B C x y1) (k3 : ih_K n A B C x y3) : ih_K n A B C x y2 := by
  intro i hi
  have a := k1 i hi
  have b := k3 i hi
  obtain ⟨rA, rB⟩ := h i hi
  rw [Int32.le_iff_toInt_le, ih_val rA rB (ih_gn hx) (ih_gn (by omega))] at a
  rw [Int32.le_iff_toInt_le, ih_val rA rB (ih_gn hx) (ih_gn (by omega))] at b
  rw [Int32.le_iff_toInt_le, ih_val rA rB (ih_gn hx) (ih_gn (by omega))]
  simp only [ih_L] at a b ⊢
  rw [nI_toInt (n := y1) (by omega)] at a
  rw [nI_toInt (n := y3) (by omega)] at b
  rw [nI_toInt (n := y2) (by omega)]
  rcases Int.le_total 0 (B i).toInt with z | z
  · have := Int.mul_nonneg z (show 0 ≤ (y3 : Int) - (y2 : Int) by omega)
    rw [Int.mul_sub] at this
    omega
  · have := Int.mul_nonneg (show 0 ≤ -(B i).toInt by omega) (show 0 ≤ (y2 : Int) - (y1 : Int) by omega)
    rw [Int.mul_sub, Int.neg_mul, Int.neg_mul] at this
    omega
/-- a measured column -/
def ih_Col (n : Nat) (A B C : Nat → Int32) (x : Nat) (lo hi : Int32) (m h : Nat) : Prop :=
  lo = nI m ∧ hi = nI h + (-1) ∧ m ≤ h ∧ h ≤ 41 ∧ ∀ y, y ≤ 40 → (ih_K n A B C x y ↔ m ≤ y ∧ y < h)
/-- a column measured up to y -/
def ih_Ms (n : Nat) (A B C : Nat → Int32) (x y m h : Nat) : Prop :=
  (∀ i, i < y → ih_K n A B C x i → m ≤ i ∧ i < h) ∧ ((m = 0 ∧ h = 0) ∨ (m < h ∧ h ≤ y ∧ ih_K n A B C x m ∧ ih_K n A B C x (h - 1)))
theorem ih_Ms0 {n : Nat} {A B C : Nat → Int32} {x : Nat} : ih_Ms n A B C x 0 0 0 := ⟨fun i h => absurd h (Nat.not_lt_zero i), Or.inl ⟨rfl, rfl⟩⟩
theorem ih_MsN {n : Nat} {A B C : Nat → Int32} {x y m h : Nat} (H : ih_Ms n A B C x y m h) (hk : ¬ ih_K n A B C x y) : ih_Ms n A B C x (y + 1) m h := by
  refine ⟨fun i hi ki => ?_, ?_⟩
  · by_cases e : i = y
    · rw [e] at ki
      exact absurd ki hk
    · exact H.1 i (by omega) ki
  · rcases H.2 with z | ⟨z1, z2, z3⟩
    · exact Or.inl z
    · exact Or.inr ⟨z1, by omega, z3⟩
theorem ih_MsA {n : Nat} {A B C : Nat → Int32} {x y m : Nat} (H : ih_Ms n A B C x y m 0) (hk : ih_K n A B C x y) : ih_Ms n A B C x (y + 1) y (y + 1) := by
  refine ⟨fun i hi ki => ?_, Or.inr ⟨by omega, by omega, hk, by rw [show y + 1 - 1 = y by omega]; exact hk⟩⟩
  by_cases e : i = y
  · omega
  · have := H.1 i (by omega) ki
    omega
theorem ih_MsB {n : Nat} {A B C : Nat → Int32} {x y m h : Nat} (H : ih_Ms n A B C x y m h) (h0 : h ≠ 0) (hk : ih_K n A B C x y) : ih_Ms n A B C x (y + 1) m (y + 1) := by
  rcases H.2 with z | ⟨z1, z2, z3, z4⟩
  · omega
  · refine ⟨fun i hi ki => ?_, Or.inr ⟨by omega, by omega, z3, by rw [show y + 1 - 1 = y by omega]; exact hk⟩⟩
    by_cases e : i = y
    · omega
    · have := H.1 i (by omega) ki
      omega
theorem ih_MsE {n : Nat} {A B C : Nat → Int32} {x m h : Nat} (hR : ih_Rg n A B) (hx : x ≤ 40) (H : ih_Ms n A B C x 41 m h) : ih_Col n A B C x (nI m) (nI h + (-1)) m h := by
  refine ⟨rfl, rfl, ?_, ?_, fun y hy => ⟨fun k => H.1 y (by omega) k, fun k => ?_⟩⟩
  · rcases H.2 with z | ⟨z1, z2, z3, z4⟩ <;> omega
  · rcases H.2 with z | ⟨z1, z2, z3, z4⟩ <;> omega
  · rcases H.2 with z | ⟨z1, z2, z3, z4⟩
    · omega
    · exact ih_conv hR hx (by omega) k.1 (by omega) z3 z4
theorem ih_hneg {h : Nat} (hh : h ≤ 41) : nI h + (-1) < 0 ↔ h = 0 := by
  cases h with
  | zero =>
    refine ⟨fun _ => rfl, fun _ => ?_⟩
    rw [nI_0]
    decide
  | succ h =>
    rw [pk_m1]
    refine ⟨fun z => absurd z (nI_pos (by omega)), fun z => by omega⟩
theorem ih_ht {h : Nat} (hh : h ≤ 41) : (nI h + (-1)).toInt = (h : Int) - 1 := by
  cases h with
  | zero =>
    rw [nI_0]
    decide
  | succ h =>
    rw [pk_m1, nI_toInt (by omega)]
    omega
/-- what X holds behind a refresh -/
def ih_XF (n : Nat) (A B C lo hi cx cy : Nat → Int32) (c : Nat) (mm hh : Nat → Nat) : Prop :=
  (∀ x, x ≤ 40 → ih_Col n A B C x (lo x) (hi x) (mm x) (hh x)) ∧ ih_HC (ih_S mm hh) c (ih_p cx cy)
def ih_F (mm hh : Nat → Nat) (i : Nat) : Prop := mm (i / 41) ≤ i % 41 ∧ i % 41 < hh (i / 41)
theorem ih_Fi {mm hh : Nat → Nat} {x y : Nat} (hy : y < 41) : ih_F mm hh (41 * x + y) ↔ mm x ≤ y ∧ y < hh x := by
  unfold ih_F
  rw [show (41 * x + y) / 41 = x by omega, show (41 * x + y) % 41 = y by omega]
/-- the list of the points -/
def ih_LF (mm hh : Nat → Nat) (li : Nat → Int32) : Prop := ∀ i, i < 1681 → ih_F mm hh i → li (ih_cn (ih_F mm hh) i) = nI (i / 41 + 64 * (i % 41))
def ih_YF (mm hh : Nat → Nat) (c : Nat) (cx cy li hu : Nat → Int32) : Prop :=
  ih_LF mm hh li ∧ ∀ k, k < c → hu k = cx k + 64 * cy k
/-- w is the packed point q -/
def ih_W (q : ih_V) (w : Int32) : Prop := ∃ x y : Nat, x ≤ 40 ∧ y ≤ 40 ∧ q = ((x : Int), (y : Int)) ∧ w = nI (x + 64 * y)
def ih_tr (a b c : Int32) : Int32 := ((b &&& 63) - (a &&& 63)) * ((c >>> ((6 : Int32) &&& 31)) - (a >>> ((6 : Int32) &&& 31))) - ((b >>> ((6 : Int32) &&& 31)) - (a >>> ((6 : Int32) &&& 31))) * ((c &&& 63) - (a &&& 63))
def ih_ds (a b : Int32) : Int32 := ((b &&& 63) - (a &&& 63)) * ((b &&& 63) - (a &&& 63)) + ((b >>> ((6 : Int32) &&& 31)) - (a >>> ((6 : Int32) &&& 31))) * ((b >>> ((6 : Int32) &&& 31)) - (a >>> ((6 : Int32) &&& 31)))
theorem ih_Wt {a b c : ih_V} {wa wb wc : Int32} (ha : ih_W a wa) (hb : ih_W b wb) (hc : ih_W c wc) : (ih_tr wa wb wc).toInt = ih_T a b c := by
  obtain ⟨ax, ay, a1, a2, rfl, rfl⟩ := ha
  obtain ⟨bx, b', b1, b2, rfl, rfl⟩ := hb
  obtain ⟨cx, cy, c1, c2, rfl, rfl⟩ := hc
  unfold ih_tr
  rw [ih_px a1 a2, ih_px b1 b2, ih_px c1 c2, ih_py a1 a2, ih_py b1 b2, ih_py c1 c2, ih_turn (ih_gn a1) (ih_gn a2) (ih_gn b1) (ih_gn b2) (ih_gn c1) (ih_gn c2)]
  rw [nI_toInt (n := ax) (by omega), nI_toInt (n := ay) (by omega), nI_toInt (n := bx) (by omega), nI_toInt (n := b') (by omega), nI_toInt (n := cx) (by omega), nI_toInt (n := cy) (by omega)]
theorem ih_Wd {a b : ih_V} {wa wb : Int32} (ha : ih_W a wa) (hb : ih_W b wb) : (ih_ds wa wb).toInt = ih_D a b := by
  obtain ⟨ax, ay, a1, a2, rfl, rfl⟩ := ha
  obtain ⟨bx, b', b1, b2, rfl, rfl⟩ := hb
  unfold ih_ds
  rw [ih_px a1 a2, ih_px b1 b2, ih_py a1 a2, ih_py b1 b2, ih_dist (ih_gn a1) (ih_gn a2) (ih_gn b1) (ih_gn b2)]
  rw [nI_toInt (n := ax) (by omega), nI_toInt (n := ay) (by omega), nI_toInt (n := bx) (by omega), nI_toInt (n := b') (by omega)]
theorem ih_We {a b : ih_V} {wa wb : Int32} (ha : ih_W a wa) (hb : ih_W b wb) : wa = wb ↔ a = b := by
  obtain ⟨ax, ay, a1, a2, rfl, rfl⟩ := ha
  obtain ⟨bx, b', b1, b2, rfl, rfl⟩ := hb
  rw [ih_pj a1 a2 b1 b2]
  constructor
  · rintro ⟨h1, h2⟩
    rw [h1, h2]
  · intro h
    have t1 : (ax : Int) = (bx : Int) := congrArg Prod.fst h
    have t2 : (ay : Int) = (b' : Int) := congrArg Prod.snd h
    omega
/-- the walk's next: to b, or all is one point -/
def ih_N (S : ih_V → Prop) (a b : ih_V) : Prop := ih_E S a b ∨ (b = a ∧ ∀ q, S q → q = a)
/-- the test of the walk's step -/
def ih_nc (wa be w : Int32) : Prop := be = wa ∨ ih_tr wa be w < 0 ∨ (ih_tr wa be w = 0 ∧ ih_ds wa be < ih_ds wa w)
theorem ih_nxt {S : ih_V → Prop} {a b q q' : ih_V} {wa be w : Int32} (hN : ih_N S a b) (ha : ih_W a wa) (hq : q = a ∨ S q) (hw : ih_W q be) (hq' : S q') (hw' : ih_W q' w) : (ih_nc wa be w → q = b → q' = b) ∧ (¬ ih_nc wa be w → q' = b → q = b) := by
  rcases hN with hE | ⟨h1, h2⟩
  · unfold ih_nc
    rw [ih_We hw ha, ih_lt0, ih_eq0, Int32.lt_iff_toInt_lt, ih_Wt ha hw hw', ih_Wd ha hw, ih_Wd ha hw']
    constructor
    · intro h e
      rw [e] at h
      have k := ih_keep hE hq'
      rcases h with h | h | ⟨h3, h4⟩
      · exact absurd h.symm (ih_Ene hE)
      · exact absurd h k.1
      · have := k.2 h3
        omega
    · intro h e
      apply Classical.byContradiction
      intro hn
      rcases hq with z | z
      · exact h (Or.inl z)
      · rw [e] at h
        exact h (Or.inr (ih_take hE z hn))
  · refine ⟨fun _ _ => ?_, fun _ _ => ?_⟩
    · rw [h1]
      exact h2 q' hq'
    · rw [h1]
      rcases hq with z | z
      · exact z
      · exact h2 q z
/-- the corner behind corner k -/
def ih_af (c k : Nat) : Nat := if k + 1 < c then k + 1 else 0
theorem ih_HN {S : ih_V → Prop} {c : Nat} {p : Nat → ih_V} (h : ih_HC S c p) {k : Nat} (hk : k < c) : ih_N S (p k) (p (ih_af c k)) := by
  obtain ⟨h1, h2, h3, h4, h5, h6, h7⟩ := h
  unfold ih_af
  by_cases c2 : 2 ≤ c
  · obtain ⟨e1, e2⟩ := h5 c2
    by_cases z : k + 1 < c
    · rw [if_pos z]
      exact Or.inl (e1 k z)
    · rw [if_neg z, show k = c - 1 by omega]
      exact Or.inl e2
  · rw [if_neg (by omega), show k = 0 by omega]
    exact Or.inr ⟨rfl, h4 (by omega)⟩
theorem ih_SW {mm hh : Nat → Nat} (hC : ih_C mm hh) {q : ih_V} (h : ih_S mm hh q) : ∃ w, ih_W q w := by
  obtain ⟨x, y, hx, h1, h2, e⟩ := h
  have := hC x hx
  exact ⟨_, x, y, hx, by omega, e, rfl⟩
/-- the list's cells are the points -/
theorem ih_Lk {mm hh : Nat → Nat} {li : Nat → Int32} (hC : ih_C mm hh) (hL : ih_LF mm hh li) {k : Nat} (hk : k < ih_cn (ih_F mm hh) 1681) : ∃ q, ih_S mm hh q ∧ ih_W q (li k) := by
  obtain ⟨i, h1, h2, h3⟩ := ih_cex 1681 hk
  have := hC (i / 41) (by omega)
  refine ⟨(((i / 41 : Nat) : Int), ((i % 41 : Nat) : Int)), ⟨i / 41, i % 41, by omega, h2.1, h2.2, rfl⟩, ⟨i / 41, i % 41, by omega, by omega, rfl, ?_⟩⟩
  rw [← h3]
  exact hL i h1 h2
theorem ih_Lq {mm hh : Nat → Nat} {li : Nat → Int32} (hC : ih_C mm hh) (hL : ih_LF mm hh li) {q : ih_V} (hq : ih_S mm hh q) : ∃ k, k < ih_cn (ih_F mm hh) 1681 ∧ ih_W q (li k) := by
  obtain ⟨x, y, hx, h1, h2, e⟩ := hq
  have := hC x hx
  have hF : ih_F mm hh (41 * x + y) := (ih_Fi (by omega)).mpr ⟨h1, h2⟩
  refine ⟨ih_cn (ih_F mm hh) (41 * x + y), ih_clt hF (by omega), x, y, hx, by omega, e, ?_⟩
  rw [hL _ (by omega) hF, show (41 * x + y) / 41 = x by omega, show (41 * x + y) % 41 = y by omega]
/-- the list begins with corner 0 -/
theorem ih_L0 {mm hh : Nat → Nat} {li : Nat → Int32} {c : Nat} {p : Nat → ih_V} (hC : ih_C mm hh) (hL : ih_LF mm hh li) (hH : ih_HC (ih_S mm hh) c p) (hc : 0 < c) : ih_W (p 0) (li 0) ∧ 0 < ih_cn (ih_F mm hh) 1681 := by
  obtain ⟨x, y, hx, h1, h2, e⟩ := hH.2.1 0 hc
  have fi := hH.2.2.2.2.2.2
  have := hC x hx
  have hF : ih_F mm hh (41 * x + y) := (ih_Fi (by omega)).mpr ⟨h1, h2⟩
  have z : ih_cn (ih_F mm hh) (41 * x + y) = 0 := by
    have := ih_cno (P := ih_F mm hh) 0 (41 * x + y) (fun i _ hi hFi => by
      have q := fi (((i / 41 : Nat) : Int), ((i % 41 : Nat) : Int)) hc ⟨i / 41, i % 41, by omega, hFi.1, hFi.2, rfl⟩
      rw [e] at q
      dsimp only at q
      omega)
    rw [Nat.zero_add] at this
    exact this
  have lt := ih_clt hF (show 41 * x + y < 1681 by omega)
  have q := hL _ (by omega) hF
  rw [z] at q lt
  refine ⟨⟨x, y, hx, by omega, e, ?_⟩, lt⟩
  rw [q, show (41 * x + y) / 41 = x by omega, show (41 * x + y) % 41 = y by omega]
theorem ih_c0 {mm hh : Nat → Nat} {li : Nat → Int32} {c : Nat} {p : Nat → ih_V} (hC : ih_C mm hh) (hL : ih_LF mm hh li) (hH : ih_HC (ih_S mm hh) c p) : ih_cn (ih_F mm hh) 1681 = 0 ↔ c = 0 := by
  constructor
  · intro z
    apply Classical.byContradiction
    intro n
    have := (ih_L0 hC hL hH (by omega)).2
    omega
  · intro z
    apply Classical.byContradiction
    intro n
    obtain ⟨q, hq, _⟩ := ih_Lk hC hL (show 0 < ih_cn (ih_F mm hh) 1681 by omega)
    exact hH.2.2.1 z q hq
end
section
theorem ih_bst {S : ih_V → Prop} {c : Nat} {p : Nat → ih_V} (h : ih_HC S c p) {f s : ih_V} (hs : S s) : ∃ i, i < c ∧ ih_L f s ≤ ih_L f (p i) := by
  obtain ⟨h1, h2, h3, h4, h5, h6, h7⟩ := h
  by_cases c2 : 2 ≤ c
  · exact ih_most c2 (h5 c2).1 (h5 c2).2 hs
  · by_cases c0 : c = 0
    · exact absurd hs (h3 c0 s)
    · refine ⟨0, by omega, ?_⟩
      rw [h4 (by omega) s hs]
      exact Int.le_refl _
theorem ih_Sg {mm hh : Nat → Nat} (hC : ih_C mm hh) {cx cy : Nat → Int32} {i : Nat} (h : ih_S mm hh (ih_p cx cy i)) : ∃ x y : Nat, x ≤ 40 ∧ y ≤ 40 ∧ cx i = nI x ∧ cy i = nI y ∧ ih_p cx cy i = ((x : Int), (y : Int)) := by
  obtain ⟨x, y, hx, h1, h2, e⟩ := h
  have := hC x hx
  have t1 : (cx i).toInt = (x : Int) := congrArg Prod.fst e
  have t2 : (cy i).toInt = (y : Int) := congrArg Prod.snd e
  refine ⟨x, y, hx, by omega, ?_, ?_, e⟩
  · apply Int32.toInt_inj.mp
    rw [t1, nI_toInt (by omega)]
  · apply Int32.toInt_inj.mp
    rw [t2, nI_toInt (by omega)]
theorem ih_64 (x y : Nat) : nI x + 64 * nI y = nI (x + 64 * y) := by
  rw [show (64 : Int32) = nI 64 from rfl, pk_mul, nI_add]
theorem ih_Sp {mm hh : Nat → Nat} (hC : ih_C mm hh) {cx cy : Nat → Int32} {i : Nat} (h : ih_S mm hh (ih_p cx cy i)) : ih_W (ih_p cx cy i) (cx i + 64 * cy i) ∧ (cx i + 64 * cy i) &&& 63 = cx i ∧ (cx i + 64 * cy i) >>> ((6 : Int32) &&& 31) = cy i ∧ ih_g (cx i) ∧ ih_g (cy i) := by
  obtain ⟨x, y, h1, h2, h3, h4, h5⟩ := ih_Sg hC h
  rw [h3, h4, h5, ih_64]
  exact ⟨⟨x, y, h1, h2, rfl, rfl⟩, ih_px h1 h2, ih_py h1 h2, ih_gn h1, ih_gn h2⟩
def ih_vl (P Q w : Int32) : Int32 := P * (w &&& 63) + Q * (w >>> ((6 : Int32) &&& 31))
def ih_ok (P : Int32) : Prop := -100 ≤ P.toInt ∧ P.toInt ≤ 100
theorem ih_Wv {q : ih_V} {w P Q : Int32} (h : ih_W q w) (hP : ih_ok P) (hQ : ih_ok Q) : (ih_vl P Q w).toInt = ih_L (P.toInt, Q.toInt) q := by
  obtain ⟨x, y, h1, h2, rfl, rfl⟩ := h
  unfold ih_vl
  rw [ih_px h1 h2, ih_py h1 h2, ih_val hP hQ (ih_gn h1) (ih_gn h2), nI_toInt (n := x) (by omega), nI_toInt (n := y) (by omega)]
theorem ih_fan (x0 y0 x1 y1 x2 y2 s : Int32) : (s - (x0 * y1 - x1 * y0)) + ((x1 - x0) * (y2 - y0) - (y1 - y0) * (x2 - x0)) = (s + (x1 * y2 - x2 * y1)) - (x0 * y2 - x2 * y0) := by
  grind
/-- the sum over the first edges -/
def ih_sh (cx cy : Nat → Int32) : Nat → Int32
  | 0 => 0
  | i + 1 => ih_sh cx cy i + (cx i * cy (i + 1) - cx (i + 1) * cy i)
theorem ih_sh1 (cx cy : Nat → Int32) : ih_sh cx cy 1 - (cx 0 * cy 1 - cx 1 * cy 0) = 0 := by
  show (0 + (cx 0 * cy (0 + 1) - cx (0 + 1) * cy 0)) - (cx 0 * cy 1 - cx 1 * cy 0) = 0
  grind
theorem ih_shE (s x0 y0 x1 y1 : Int32) : s + (x1 * y0 - x0 * y1) = s - (x0 * y1 - x1 * y0) := by
  grind
/-- the point lies on an edge's line -/
def ih_B (c : Nat) (p : Nat → ih_V) (s : ih_V) : Prop := ∃ i, i < c ∧ ih_T (p i) (p (ih_af c i)) s = 0
theorem ih_Bs {S : ih_V → Prop} {c : Nat} {p : Nat → ih_V} (h : ih_HC S c p) (hc : c < 3) {s : ih_V} (hs : S s) : ih_B c p s := by
  obtain ⟨h1, h2, h3, h4, h5, h6, h7⟩ := h
  by_cases c2 : c = 2
  · obtain ⟨e1, e2⟩ := h5 (by omega)
    refine ⟨0, by omega, ?_⟩
    have a := e1 0 (by omega)
    rw [c2] at e2
    rw [show ih_af c 0 = 1 by unfold ih_af; rw [if_pos (by omega)]]
    exact ih_two a e2 hs
  · by_cases c0 : c = 0
    · exact absurd hs (h3 c0 s)
    · refine ⟨0, by omega, ?_⟩
      rw [show ih_af c 0 = 0 by unfold ih_af; rw [if_neg (by omega)], ih_T2]
def ih_G (mm hh : Nat → Nat) (c : Nat) (p : Nat → ih_V) (i : Nat) : Prop := ih_F mm hh i ∧ ih_B c p (((i / 41 : Nat) : Int), ((i % 41 : Nat) : Int))
theorem ih_Gi {mm hh : Nat → Nat} {c : Nat} {p : Nat → ih_V} {x y : Nat} (hy : y < 41) : ih_G mm hh c p (41 * x + y) ↔ (mm x ≤ y ∧ y < hh x) ∧ ih_B c p ((x : Int), (y : Int)) := by
  unfold ih_G
  rw [ih_Fi hy, show (41 * x + y) / 41 = x by omega, show (41 * x + y) % 41 = y by omega]
/-- the count behind the lower and behind the upper end of a column -/
theorem ih_Glo {mm hh : Nat → Nat} {c : Nat} {p : Nat → ih_V} {x : Nat} (h : mm x ≤ 41) : ih_cn (ih_G mm hh c p) (41 * x + mm x) = ih_cn (ih_G mm hh c p) (41 * x) :=
  ih_cno (41 * x) (mm x) (fun i h1 h2 => by
    obtain ⟨y, rfl⟩ : ∃ y, i = 41 * x + y := ⟨i - 41 * x, by omega⟩
    rw [ih_Gi (by omega)]
    rintro ⟨z, _⟩
    omega)
theorem ih_Ghi {mm hh : Nat → Nat} {c : Nat} {p : Nat → ih_V} {x : Nat} (h : hh x ≤ 41) : ih_cn (ih_G mm hh c p) (41 * (x + 1)) = ih_cn (ih_G mm hh c p) (41 * x + hh x) := by
  have := ih_cno (P := ih_G mm hh c p) (41 * x + hh x) (41 - hh x) (fun i h1 h2 => by
    obtain ⟨y, rfl⟩ : ∃ y, i = 41 * x + y := ⟨i - 41 * x, by omega⟩
    rw [ih_Gi (by omega)]
    rintro ⟨z, _⟩
    omega)
  rw [show 41 * x + hh x + (41 - hh x) = 41 * (x + 1) by omega] at this
  exact this
/-- the points of one column, counted over the list -/
theorem ih_Kcol {mm hh : Nat → Nat} {x : Nat} (hx : x ≤ 40) (hm : mm x ≤ hh x) (hh' : hh x ≤ 41) : ih_cn (fun i => ih_F mm hh i ∧ i / 41 = x) 1681 = hh x - mm x := by
  have e0 := ih_cno (P := fun i => ih_F mm hh i ∧ i / 41 = x) 0 (41 * x) (fun i h1 h2 z => by
    have := z.2
    omega)
  rw [Nat.zero_add] at e0
  have e1 := ih_ccol (P := fun i => ih_F mm hh i ∧ i / 41 = x) (x := x) hm hh' (fun y hy => by
    show ih_F mm hh (41 * x + y) ∧ (41 * x + y) / 41 = x ↔ _
    rw [ih_Fi hy]
    constructor
    · rintro ⟨z, _⟩
      exact z
    · intro z
      exact ⟨z, by omega⟩)
  have e2 := ih_cno (P := fun i => ih_F mm hh i ∧ i / 41 = x) (41 * (x + 1)) (1681 - 41 * (x + 1)) (fun i h1 h2 z => by
    have := z.2
    omega)
  rw [show 41 * (x + 1) + (1681 - 41 * (x + 1)) = 1681 by omega] at e2
  rw [e2, e1, e0]
  show 0 + (hh x - mm x) = _
  omega
theorem ih_Kno {mm hh : Nat → Nat} {R : Nat → Prop} (h : ∀ i, i < 1681 → ¬ R i) : ih_cn (fun i => ih_F mm hh i ∧ R i) 1681 = 0 := by
  have e0 := ih_cno (P := fun i => ih_F mm hh i ∧ R i) 0 1681 (fun i h1 h2 z => h i (by omega) z.2)
  rw [Nat.zero_add] at e0
  exact e0
end
section
section XW
variable {n : Nat} {nn cc : Int32} {A B C lw hg cx cy : Nat → Int32}
theorem ih_xful2 {post : Int32 → Prop} {x y : Int32} (hn : n ≤ 8) (h1 : (∀ i, i < n → A i * x + B i * y ≤ C i) → post 1) (h0 : ∀ i, i < n → ¬ A i * x + B i * y ≤ C i → post 0) : ∀ d i, i + d = n → (∀ j, j < i → A j * x + B j * y ≤ C j) → wX_fulfilsAll_2 post x y (nI n) cc A B C lw hg cx cy (d + 1) (nI i) := by
  intro d
  induction d with
  | zero =>
    intro i hi hj
    exact br_t (nI_le (by omega) (by omega)) (h1 (fun j hj' => hj j (by omega)))
  | succ d ih =>
    intro i hi hj
    have v : vp_in (nI i) 8 := vp_in_nI (by omega) (by omega)
    have e : (nI i).toNatClampNeg = i := nI_clamp (by omega)
    refine br_f (nI_ge (by omega) (by omega)) ⟨v, v, v, ?_⟩
    rw [e]
    by_cases z : A i * x + B i * y ≤ C i
    · exact br_t z (nm_r (nI_1 i) (ih (i + 1) (by omega) (lt_s hj z)))
    · exact br_f z (h0 i (by omega) z)
theorem ih_xful {post : Int32 → Prop} {x y : Int32} (hn : n ≤ 8) (h1 : (∀ i, i < n → A i * x + B i * y ≤ C i) → post 1) (h0 : (¬ ∀ i, i < n → A i * x + B i * y ≤ C i) → post 0) : wpX_fulfilsAll post (nI n, cc, A, B, C, lw, hg, cx, cy) x y :=
  ⟨n + 1, ih_xful2 hn h1 (fun i hi z => h0 (fun w => z (w i hi))) n 0 (Nat.zero_add n) lt_0⟩
theorem ih_xmc7 {post : SX → Prop} {x : Nat} (hx : x ≤ 40) (hn : n ≤ 8) (K : ∀ m h, ih_Ms n A B C x 41 m h → post (nI n, cc, A, B, C, upd lw x (nI m), upd hg x (nI h + (-1)), cx, cy)) : ∀ d y m h, y + d = 41 → ih_Ms n A B C x y m h → wX_measureColumn_7 post (nI x) (nI n) cc A B C lw hg cx cy (d + 1) (nI m) (nI h + (-1)) (nI y) := by
  intro d
  induction d with
  | zero =>
    intro y m h hy H
    have v : vp_in (nI x) 41 := vp_in_nI (by omega) (by omega)
    have e : (nI x).toNatClampNeg = x := nI_clamp (by omega)
    have ey : y = 41 := by omega
    rw [ey] at H
    exact br_t (nI_lt (a := 40) (by omega) (by omega)) ⟨v, nm_r (e' := upd lw x (nI m)) (by rw [e]) ⟨v, nm_r (e' := upd hg x (nI h + (-1))) (by rw [e]) (K m h H)⟩⟩
  | succ d ih =>
    intro y m h hy H
    have hh : h ≤ 41 := by
      rcases H.2 with z | ⟨z1, z2, _⟩ <;> omega
    refine br_f (nI_nlt (a := 40) (by omega) (by omega)) (ih_xful hn (fun k => ?_) (fun k => ?_))
    · refine br_f (by decide) ?_
      by_cases z : h = 0
      · have i2 := ih (y + 1) y (y + 1) (by omega) (ih_MsA (m := m) (by rw [z] at H; exact H) k)
        rw [pk_m1] at i2
        exact br_f (fun w => Int32.not_lt.mpr w ((ih_hneg hh).mpr z)) (nm_r (nI_1 y) i2)
      · have i2 := ih (y + 1) m (y + 1) (by omega) (ih_MsB H z k)
        rw [pk_m1] at i2
        exact br_t (Int32.not_lt.mp (fun w => z ((ih_hneg hh).mp w))) (nm_r (nI_1 y) i2)
    · exact br_t rfl (nm_r (nI_1 y) (ih (y + 1) m h (by omega) (ih_MsN H k)))
theorem ih_xmc {post : SX → Prop} {x : Nat} (hx : x ≤ 40) (hn : n ≤ 8) (K : ∀ m h, ih_Ms n A B C x 41 m h → post (nI n, cc, A, B, C, upd lw x (nI m), upd hg x (nI h + (-1)), cx, cy)) : wpX_measureColumn post (nI n, cc, A, B, C, lw, hg, cx, cy) (nI x) := by
  have i2 := ih_xmc7 hx hn K 41 0 0 0 (by omega) ih_Ms0
  rw [show nI 0 + (-1) = (-1 : Int32) by decide] at i2
  exact ⟨42, i2⟩
theorem ih_xturn {post : Int32 → Prop} {i j : Nat} {x y : Int32} (hi : i < 82) (hj : j < 82) (h : post ((cx j - cx i) * (y - cy i) - (cy j - cy i) * (x - cx i))) : wpX_turn post (nn, cc, A, B, C, lw, hg, cx, cy) (nI i) (nI j) x y := by
  have vi : vp_in (nI i) 82 := vp_in_nI hi (by omega)
  have vj : vp_in (nI j) 82 := vp_in_nI hj (by omega)
  have ei : (nI i).toNatClampNeg = i := nI_clamp (by omega)
  have ej : (nI j).toNatClampNeg = j := nI_clamp (by omega)
  refine ⟨vj, vi, vi, vj, vi, vi, ?_⟩
  rw [ei, ej]
  exact h
theorem ih_xec44 {post : SX → Prop} {x y : Int32} {c : Nat} (hc : c < 82) (h : post (nn, nI (c + 1), A, B, C, lw, hg, upd cx c x, upd cy c y)) : wX_extendChain_44 post x y nn (nI c) A B C lw hg cx cy := by
  have v : vp_in (nI c) 82 := vp_in_nI hc (by omega)
  have e : (nI c).toNatClampNeg = c := nI_clamp (by omega)
  exact ⟨v, nm_r (e' := upd cx c x) (by rw [e]) ⟨v, nm_r (e' := upd cy c y) (by rw [e]) (nm_r (nI_1 c) h)⟩⟩
theorem ih_xec0 {post : SX → Prop} {f : Nat} {x y : Int32} (hf : f ≤ 81) (gx : ih_g x) (gy : ih_g y) : ∀ c, c < 82 → (∀ i, i < c → ih_g (cx i) ∧ ih_g (cy i)) → (∀ d, ih_R f c d (ih_p cx cy) (x.toInt, y.toInt) → post (nn, nI (d + 1), A, B, C, lw, hg, upd cx d x, upd cy d y)) → wX_extendChain_0 post (nI f) x y nn A B C lw hg cx cy (c + 1) (nI c) := by
  intro c
  induction c with
  | zero =>
    intro h1 h2 K
    have lt : nI 0 < nI f + 2 := by
      rw [show nI f + 2 = nI (f + 2) from nI_add f 2]
      exact nI_lt (by omega) (by omega)
    exact br_t lt (ih_xec44 (c := 0) (by omega) (K 0 ⟨Nat.le_refl _, fun j a b => by omega, fun w => by omega⟩))
  | succ c ih =>
    intro h1 h2 K
    have e3 : nI f + 2 = nI (f + 2) := nI_add f 2
    by_cases z : c + 1 < f + 2
    · exact br_t (by rw [e3]; exact nI_lt z (by omega)) (ih_xec44 h1 (K (c + 1) ⟨Nat.le_refl _, fun j a b => by omega, fun w => by omega⟩))
    · have e1 : nI (c + 1) - 1 = nI c := nI_pred c
      have e2 : nI (c + 1) - 2 = nI (c - 1) := by
        rw [show (2 : Int32) = nI 2 from rfl, pk_sub (by omega)]
        exact congrArg nI (by omega)
      refine br_f (by rw [e3]; exact nI_nlt (by omega) (by omega)) ?_
      rw [e1, e2]
      refine ih_xturn (by omega) (by omega) ?_
      have t := ih_turn (h2 (c - 1) (by omega)).1 (h2 (c - 1) (by omega)).2 (h2 c (by omega)).1 (h2 c (by omega)).2 gx gy
      have t' : ((cx c - cx (c - 1)) * (y - cy (c - 1)) - (cy c - cy (c - 1)) * (x - cx (c - 1))).toInt = ih_T (ih_p cx cy (c - 1)) (ih_p cx cy c) (x.toInt, y.toInt) := t
      by_cases w : 0 < (cx c - cx (c - 1)) * (y - cy (c - 1)) - (cy c - cy (c - 1)) * (x - cx (c - 1))
      · refine br_t w (ih_xec44 h1 (K (c + 1) ⟨Nat.le_refl _, fun j a b => by omega, fun _ => ?_⟩))
        rw [Int32.lt_iff_toInt_lt, t', ih_0t] at w
        rw [show c + 1 - 2 = c - 1 by omega, show c + 1 - 1 = c by omega]
        exact w
      · refine br_f w (nm_e (ih (by omega) (fun i hi => h2 i (by omega)) (fun d hR => K d ⟨by have := hR.1; omega, fun j a b => ?_, hR.2.2⟩)))
        by_cases q : j = c
        · rw [q]
          rw [Int32.lt_iff_toInt_lt, t', ih_0t] at w
          exact ⟨by omega, by omega⟩
        · exact hR.2.1 j a (by omega)
theorem ih_xec {post : SX → Prop} {f c : Nat} {x y : Int32} (hf : f ≤ 81) (gx : ih_g x) (gy : ih_g y) (hc : c < 82) (hg' : ∀ i, i < c → ih_g (cx i) ∧ ih_g (cy i)) (K : ∀ d, ih_R f c d (ih_p cx cy) (x.toInt, y.toInt) → post (nn, nI (d + 1), A, B, C, lw, hg, upd cx d x, upd cy d y)) : wpX_extendChain post (nn, nI c, A, B, C, lw, hg, cx, cy) (nI f) x y :=
  ⟨c + 1, ih_xec0 hf gx gy c hc hg' K⟩
end XW
theorem ih_pu1 {cx cy : Nat → Int32} {x y : Int32} {d i : Nat} (h : i ≠ d) : ih_p (upd cx d x) (upd cy d y) i = ih_p cx cy i := by
  unfold ih_p
  rw [pk_un h, pk_un h]
theorem ih_pu2 {cx cy : Nat → Int32} {x y : Int32} {d : Nat} : ih_p (upd cx d x) (upd cy d y) d = (x.toInt, y.toInt) := by
  unfold ih_p
  rw [pk_us, pk_us]
theorem ih_pug {cx cy : Nat → Int32} {x y : Int32} {c d : Nat} (hd : d ≤ c) (gx : ih_g x) (gy : ih_g y) (h : ∀ i, i < c → ih_g (cx i) ∧ ih_g (cy i)) : ∀ i, i < d + 1 → ih_g (upd cx d x i) ∧ ih_g (upd cy d y i) := by
  intro i hi
  by_cases e : i = d
  · rw [e, pk_us, pk_us]
    exact ⟨gx, gy⟩
  · rw [pk_un e, pk_un e]
    exact h i (by omega)
/-- the two arrays of the columns -/
def ih_Q (mm hh : Nat → Nat) (lw hg : Nat → Int32) : Prop := ∀ x, x ≤ 40 → lw x = nI (mm x) ∧ hg x = nI (hh x) + (-1) ∧ mm x ≤ hh x ∧ hh x ≤ 41
theorem ih_QC {mm hh : Nat → Nat} {lw hg : Nat → Int32} (h : ih_Q mm hh lw hg) : ih_C mm hh := fun x hx => (h x hx).2.2.2
theorem ih_cmp {mm hh : Nat → Nat} {lw hg : Nat → Int32} (h : ih_Q mm hh lw hg) {x : Nat} (hx : x ≤ 40) : hg x < lw x ↔ ¬ mm x < hh x := by
  obtain ⟨h1, h2, h3, h4⟩ := h x hx
  rw [h1, h2, Int32.lt_iff_toInt_lt, ih_ht h4, nI_toInt (by omega)]
  omega
section XT
variable {nn : Int32} {A B C lw hg : Nat → Int32} {mm hh : Nat → Nat}
theorem ih_xtr64 {post : SX → Prop} (hQ : ih_Q mm hh lw hg) (K : ∀ (cx cy : Nat → Int32) (c : Nat), ih_HC (ih_S mm hh) c (ih_p cx cy) → post (nn, nI c, A, B, C, lw, hg, cx, cy)) {f xr : Nat} (hf : f ≤ 40) : ∀ (k : Nat) (cx cy : Nat → Int32) (c : Nat), k ≤ 41 → ih_J (1, 0) 0 f (ih_p cx cy) (ih_PL mm hh 41) → ih_IU mm hh f xr k c (ih_p cx cy) → (∀ i, i < c → ih_g (cx i) ∧ ih_g (cy i)) → wX_traceHull_64 post (nI f) (k + 1) (nI k + (-1)) nn (nI c) A B C lw hg cx cy := by
  have hC := ih_QC hQ
  intro k
  induction k with
  | zero =>
    intro cx cy c _ lo iu g
    have c1 : f + 1 ≤ c := iu.2.2.2.2.1
    have c2 := iu.2.2.2.2.2.1
    have e1 : nI c - 1 = nI (c - 1) := by
      rw [show (1 : Int32) = nI 1 from rfl, pk_sub (by omega)]
    have v : vp_in (nI (c - 1)) 82 := vp_in_nI (by omega) (by omega)
    have e : (nI (c - 1)).toNatClampNeg = c - 1 := nI_clamp (by omega)
    refine br_t ((ih_hneg (by omega)).mpr rfl) (nm_r e1 ?_)
    by_cases z : c - 1 ≤ 0
    · exact br_t (nI_le (b := 0) z (by omega)) (K cx cy c (ih_fin hC hf lo iu (Or.inr ⟨fun w => by omega, rfl⟩)))
    · refine br_f (nI_nle (by omega) (by omega)) ⟨v, ?_⟩
      rw [e]
      by_cases zx : cx (c - 1) = cx 0
      · refine br_t zx ⟨v, ?_⟩
        by_cases zy : cy (c - 1) = cy 0
        · refine br_t zy (K cx cy (c - 1) (ih_fin hC hf lo iu (Or.inl ⟨by omega, ?_, rfl⟩)))
          unfold ih_p
          rw [zx, zy]
        · refine br_f zy (K cx cy c (ih_fin hC hf lo iu (Or.inr ⟨fun w => zy ?_, rfl⟩)))
          exact Int32.toInt_inj.mp (congrArg Prod.snd w.2)
      · refine br_f zx (K cx cy c (ih_fin hC hf lo iu (Or.inr ⟨fun w => zx ?_, rfl⟩)))
        exact Int32.toInt_inj.mp (congrArg Prod.fst w.2)
  | succ k ih =>
    intro cx cy c hk lo iu g
    rw [pk_m1]
    have v : vp_in (nI k) 41 := vp_in_nI (by omega) (by omega)
    have e : (nI k).toNatClampNeg = k := nI_clamp (by omega)
    refine br_f (nI_pos (by omega)) ⟨v, v, ?_⟩
    rw [e]
    by_cases z : hg k < lw k
    · exact br_t z (nm_e (ih cx cy c (by omega) lo (ih_IUe (by omega) iu ((ih_cmp hQ (by omega)).mp z)) g))
    · have hn : mm k < hh k := Classical.byContradiction (fun w => z ((ih_cmp hQ (by omega)).mpr w))
      obtain ⟨q1, q2, q3, q4⟩ := hQ k (by omega)
      have ty : (hg k).toInt = (hh k : Int) - 1 := by rw [q2]; exact ih_ht q4
      have tx : (nI k).toInt = (k : Int) := nI_toInt (by omega)
      have gy : ih_g (hg k) := by
        unfold ih_g
        omega
      have gx : ih_g (nI k) := ih_gn (by omega)
      have c2 := iu.2.2.2.2.2.1
      refine br_f z ⟨v, ih_xec (by omega) gx gy (by omega) g (fun d hR => nm_e ?_)⟩
      have er : ((nI k).toInt, (hg k).toInt) = ((k : Int), (hh k : Int) - 1) := by rw [tx, ty]
      have hR' := hR
      rw [er] at hR'
      obtain ⟨s1, s2⟩ := ih_IUs hC (by omega) iu hn hR' (p' := ih_p (upd cx d (nI k)) (upd cy d (hg k))) (fun i hi => ih_pu1 (by omega)) (by rw [ih_pu2, er])
      exact ih _ _ (d + 1) (by omega) (ih_Jcg lo (fun i _ hi => ih_pu1 (by omega)) (fun q => Iff.rfl)) s2 (ih_pug hR.1 gx gy g)
theorem ih_xtr7 {post : SX → Prop} (hQ : ih_Q mm hh lw hg) (K : ∀ (cx cy : Nat → Int32) (c : Nat), ih_HC (ih_S mm hh) c (ih_p cx cy) → post (nn, nI c, A, B, C, lw, hg, cx, cy)) : ∀ (d x : Nat) (cx cy : Nat → Int32) (c : Nat), x + d = 41 → ih_IL mm hh x c (ih_p cx cy) → (∀ i, i < c → ih_g (cx i) ∧ ih_g (cy i)) → wX_traceHull_7 post (d + 1) (nI x) nn (nI c) A B C lw hg cx cy := by
  intro d
  induction d with
  | zero =>
    intro x cx cy c hx il g
    have ex : x = 41 := by omega
    rw [ex] at il
    refine br_t (nI_lt (a := 40) (by omega) (by omega)) ?_
    by_cases z : c = 0
    · rw [z]
      refine br_t rfl (K cx cy 0 ⟨by omega, fun i hi => by omega, fun _ q hq => ?_, fun w => by omega, fun w => by omega, fun i _ w => by omega, fun q w => by omega⟩)
      obtain ⟨x', y', h1, h2, h3, _⟩ := hq
      rcases il with ⟨_, w⟩ | ⟨w, _⟩
      · exact w x' (by omega) (by omega)
      · omega
    · have c41 : c ≤ 41 := by
        rcases il with ⟨w, _⟩ | ⟨_, w, _⟩ <;> omega
      have lo : ih_J (1, 0) 0 (c - 1) (ih_p cx cy) (ih_PL mm hh 41) := by
        rcases il with ⟨w, _⟩ | ⟨_, _, w⟩
        · exact absurd w z
        · exact w
      obtain ⟨xr, iu⟩ := ih_IU0 il (by omega)
      have e1 : nI c - 1 = nI (c - 1) := by
        rw [show (1 : Int32) = nI 1 from rfl, pk_sub (by omega)]
      have i2 := ih_xtr64 hQ K (xr := xr) (show c - 1 ≤ 40 by omega) 41 cx cy c (by omega) lo iu g
      rw [show nI 41 + (-1) = (40 : Int32) by decide] at i2
      exact br_f (nI_ne0 (by omega) (by omega)) (nm_r e1 ⟨42, i2⟩)
  | succ d ih =>
    intro x cx cy c hx il g
    have v : vp_in (nI x) 41 := vp_in_nI (by omega) (by omega)
    have e : (nI x).toNatClampNeg = x := nI_clamp (by omega)
    refine br_f (nI_nlt (a := 40) (by omega) (by omega)) ⟨v, v, ?_⟩
    rw [e]
    by_cases z : hg x < lw x
    · exact br_t z (nm_r (nI_1 x) (ih (x + 1) cx cy c (by omega) (ih_ILe il ((ih_cmp hQ (by omega)).mp z)) g))
    · have hn : mm x < hh x := Classical.byContradiction (fun w => z ((ih_cmp hQ (by omega)).mpr w))
      obtain ⟨q1, q2, q3, q4⟩ := hQ x (by omega)
      have ty : (lw x).toInt = (mm x : Int) := by rw [q1]; exact nI_toInt (by omega)
      have tx : (nI x).toInt = (x : Int) := nI_toInt (by omega)
      have gy : ih_g (lw x) := by
        unfold ih_g
        omega
      have gx : ih_g (nI x) := ih_gn (by omega)
      have c2 : c ≤ x := by
        rcases il with ⟨w, _⟩ | ⟨_, w, _⟩ <;> omega
      refine br_f z ⟨v, ih_xec (f := 0) (by omega) gx gy (by omega) g (fun d' hR => nm_r (nI_1 x) ?_)⟩
      have er : ((nI x).toInt, (lw x).toInt) = ((x : Int), (mm x : Int)) := by rw [tx, ty]
      have hR' := hR
      rw [er] at hR'
      exact ih (x + 1) _ _ (d' + 1) (by omega) (ih_ILs il hn hR' (fun i hi => ih_pu1 (by omega)) (by rw [ih_pu2, er])) (ih_pug hR.1 gx gy g)
theorem ih_xtr {post : SX → Prop} {cc : Int32} {cx cy : Nat → Int32} (hQ : ih_Q mm hh lw hg) (K : ∀ (cx cy : Nat → Int32) (c : Nat), ih_HC (ih_S mm hh) c (ih_p cx cy) → post (nn, nI c, A, B, C, lw, hg, cx, cy)) : wpX_traceHull post (nn, cc, A, B, C, lw, hg, cx, cy) :=
  ⟨42, ih_xtr7 hQ K 41 0 cx cy 0 (by omega) ih_IL0 (fun i h => absurd h (Nat.not_lt_zero i))⟩
end XT
section XR
variable {n : Nat} {cc : Int32} {A B C cx cy : Nat → Int32}
theorem ih_xref2 {post : SX → Prop} (hn : n ≤ 8) (hR : ih_Rg n A B) (K : ∀ (lw hg cx cy : Nat → Int32) (c : Nat) (mm hh : Nat → Nat), ih_XF n A B C lw hg cx cy c mm hh → post (nI n, nI c, A, B, C, lw, hg, cx, cy)) : ∀ (d x : Nat) (lw hg : Nat → Int32), x + d = 41 → (∀ i, i < x → ∃ mh : Nat × Nat, ih_Col n A B C i (lw i) (hg i) mh.1 mh.2) → wX_refresh_2 post (d + 1) (nI x) (nI n) cc A B C lw hg cx cy := by
  intro d
  induction d with
  | zero =>
    intro x lw hg hx h
    refine br_t (nI_lt (a := 40) (by omega) (by omega)) ?_
    have h2 : ∀ i, ∃ mh : Nat × Nat, i ≤ 40 → ih_Col n A B C i (lw i) (hg i) mh.1 mh.2 := fun i => by
      by_cases w : i ≤ 40
      · obtain ⟨mh, q⟩ := h i (by omega)
        exact ⟨mh, fun _ => q⟩
      · exact ⟨(0, 0), fun z => absurd z w⟩
    obtain ⟨F, hF⟩ := Classical.skolem.mp h2
    have hQ : ih_Q (fun x => (F x).1) (fun x => (F x).2) lw hg := fun x hx => ⟨(hF x hx).1, (hF x hx).2.1, (hF x hx).2.2.1, (hF x hx).2.2.2.1⟩
    exact ih_xtr hQ (fun cx cy c hH => K lw hg cx cy c (fun x => (F x).1) (fun x => (F x).2) ⟨fun x hx => hF x hx, hH⟩)
  | succ d ih =>
    intro x lw hg hx h
    refine br_f (nI_nlt (a := 40) (by omega) (by omega)) (ih_xmc (by omega) hn (fun m hm H => nm_r (nI_1 x) (ih (x + 1) _ _ (by omega) (fun i hi => ?_))))
    by_cases e : i = x
    · rw [e, pk_us, pk_us]
      exact ⟨(m, hm), ih_MsE hR (by omega) H⟩
    · rw [pk_un e, pk_un e]
      exact h i (by omega)
theorem ih_xref {post : SX → Prop} {lw hg : Nat → Int32} (hn : n ≤ 8) (hR : ih_Rg n A B) (K : ∀ (lw hg cx cy : Nat → Int32) (c : Nat) (mm hh : Nat → Nat), ih_XF n A B C lw hg cx cy c mm hh → post (nI n, nI c, A, B, C, lw, hg, cx, cy)) : wpX_refresh post (nI n, cc, A, B, C, lw, hg, cx, cy) :=
  ⟨42, ih_xref2 hn hR K 41 0 lw hg (by omega) (fun i h => absurd h (Nat.not_lt_zero i))⟩
end XR
end
section
section YW
variable {n : Nat} {nn ll hs : Int32} {A B C li hu : Nat → Int32}
theorem ih_yhas24 {post : Int32 → Prop} {x y : Int32} (hn : n ≤ 8) (h1 : (∀ i, i < n → A i * x + B i * y ≤ C i) → post 1) (h0 : ∀ i, i < n → ¬ A i * x + B i * y ≤ C i → post 0) : ∀ d i, i + d = n → (∀ j, j < i → A j * x + B j * y ≤ C j) → wY_has_24 post x y (nI n) ll hs A B C li hu (d + 1) (nI i) := by
  intro d
  induction d with
  | zero =>
    intro i hi hj
    exact br_t (nI_le (by omega) (by omega)) (h1 (fun j hj' => hj j (by omega)))
  | succ d ih =>
    intro i hi hj
    have v : vp_in (nI i) 8 := vp_in_nI (by omega) (by omega)
    have e : (nI i).toNatClampNeg = i := nI_clamp (by omega)
    refine br_f (nI_ge (by omega) (by omega)) ⟨v, v, v, ?_⟩
    rw [e]
    by_cases z : A i * x + B i * y ≤ C i
    · exact br_t z (nm_r (nI_1 i) (ih (i + 1) (by omega) (lt_s hj z)))
    · exact br_f z (h0 i (by omega) z)
theorem ih_yhas {post : Int32 → Prop} {x y : Nat} (hx : x ≤ 40) (hy : y ≤ 40) (hn : n ≤ 8) (h1 : ih_K n A B C x y → post 1) (h0 : ¬ ih_K n A B C x y → post 0) : wpY_has post (nI n, ll, hs, A, B, C, li, hu) (nI x) (nI y) :=
  br_f (nI_pos (by omega)) (br_f (nI_nlt (a := 40) hx (by omega)) (br_f (nI_pos (by omega)) (br_t (nI_le (b := 40) hy (by omega)) ⟨n + 1, ih_yhas24 hn h1 (fun i hi z => h0 (fun w => z (w i hi))) n 0 (Nat.zero_add n) lt_0⟩)))
theorem ih_yturn {post : Int32 → Prop} {a b c : Int32} (h : post (ih_tr a b c)) : wpY_turn post (nn, ll, hs, A, B, C, li, hu) a b c := h
theorem ih_ydist {post : Int32 → Prop} {a b : Int32} (h : post (ih_ds a b)) : wpY_distance post (nn, ll, hs, A, B, C, li, hu) a b := by
  intro x3 e3 x4 e4
  subst e3
  subst e4
  exact h
theorem ih_yval {post : Int32 → Prop} {P Q w : Int32} (h : post (ih_vl P Q w)) : wpY_value post (nn, ll, hs, A, B, C, li, hu) P Q w := h
theorem ih_ynx4 {post : Int32 → Prop} {mm hh : Nat → Nat} (hC : ih_C mm hh) (hL : ih_LF mm hh li) {a b : ih_V} {wa wb : Int32} {kb L : Nat} (hLe : L = ih_cn (ih_F mm hh) 1681) (hN : ih_N (ih_S mm hh) a b) (ha : ih_W a wa) (hb : ih_W b wb) (hk : kb < L) (hkb : ih_W b (li kb)) (K : post wb) : ∀ d k q be, k + d = L → (q = a ∨ ih_S mm hh q) → ih_W q be → (kb < k → q = b) → wY_next_4 post wa nn (nI L) hs A B C li hu (d + 1) be (nI k) := by
  have L1 : L ≤ 1681 := by
    rw [hLe]
    exact ih_cle _ 1681
  intro d
  induction d with
  | zero =>
    intro k q be hkd hq hw hqb
    have e := (ih_We hw hb).mpr (hqb (by omega))
    exact br_t (nI_le (by omega) (by omega)) (by rw [e]; exact K)
  | succ d ih =>
    intro k q be hkd hq hw hqb
    have v : vp_in (nI k) 1681 := vp_in_nI (by omega) (by omega)
    have e : (nI k).toNatClampNeg = k := nI_clamp (by omega)
    obtain ⟨q', hq', hw'⟩ := ih_Lk hC hL (k := k) (by rw [← hLe]; omega)
    obtain ⟨s1, s2⟩ := ih_nxt hN ha hq hw hq' hw'
    have same : kb = k → q' = b := fun w => by
      rw [w] at hkb
      exact (ih_We hw' hkb).mp rfl
    have taken : ih_nc wa be (li k) → wY_next_4 post wa nn (nI L) hs A B C li hu (d + 1) (li k) (nI (k + 1)) := fun c => ih (k + 1) q' (li k) (by omega) (Or.inr hq') hw' (fun w => by
      by_cases z : kb = k
      · exact same z
      · exact s1 c (hqb (by omega)))
    have kept : ¬ ih_nc wa be (li k) → wY_next_4 post wa nn (nI L) hs A B C li hu (d + 1) be (nI (k + 1)) := fun c => ih (k + 1) q be (by omega) hq hw (fun w => by
      by_cases z : kb = k
      · exact s2 c (same z)
      · exact hqb (by omega))
    refine br_f (nI_ge (by omega) (by omega)) ⟨v, nm_r (e' := li k) (by rw [e]) (ih_yturn ?_)⟩
    by_cases z1 : be = wa
    · exact br_t z1 (nm_r (nI_1 k) (taken (Or.inl z1)))
    refine br_f z1 ?_
    by_cases z2 : ih_tr wa be (li k) < 0
    · exact br_t z2 (nm_r (nI_1 k) (taken (Or.inr (Or.inl z2))))
    refine br_f z2 ?_
    by_cases z3 : ih_tr wa be (li k) = 0
    · refine br_t z3 (ih_ydist (ih_ydist ?_))
      by_cases z4 : ih_ds wa (li k) ≤ ih_ds wa be
      · refine br_t z4 (nm_r (nI_1 k) (kept ?_))
        rintro (w | w | ⟨_, w⟩)
        · exact z1 w
        · exact z2 w
        · exact Int32.not_lt.mpr z4 w
      · exact br_f z4 (nm_r (nI_1 k) (taken (Or.inr (Or.inr ⟨z3, Int32.not_le.mp z4⟩))))
    · refine br_f z3 (nm_r (nI_1 k) (kept ?_))
      rintro (w | w | ⟨w, _⟩)
      · exact z1 w
      · exact z2 w
      · exact z3 w
theorem ih_ynext {post : Int32 → Prop} {mm hh : Nat → Nat} (hC : ih_C mm hh) (hL : ih_LF mm hh li) {a b : ih_V} {wa wb : Int32} (hN : ih_N (ih_S mm hh) a b) (ha : ih_W a wa) (hb : ih_W b wb) (hS : ih_S mm hh b) (K : post wb) : wpY_next post (nn, nI (ih_cn (ih_F mm hh) 1681), hs, A, B, C, li, hu) wa := by
  obtain ⟨kb, k1, k2⟩ := ih_Lq hC hL hS
  exact ⟨ih_cn (ih_F mm hh) 1681 + 1, ih_ynx4 hC hL rfl hN ha hb k1 k2 K (ih_cn (ih_F mm hh) 1681) 0 a wa (Nat.zero_add _) (Or.inl rfl) ha (fun w => absurd w (Nat.not_lt_zero _))⟩
def ih_aj (c k : Nat) : Nat := if k < c then k else 0
theorem ih_ywk {post : SY → Prop} {mm hh : Nat → Nat} {cx cy : Nat → Int32} {c : Nat} (hC : ih_C mm hh) (hL : ih_LF mm hh li) (hH : ih_HC (ih_S mm hh) c (ih_p cx cy)) (hc : 0 < c) (K : ∀ hu : Nat → Int32, (∀ j, j < c → hu j = cx j + 64 * cy j) → post (nn, nI (ih_cn (ih_F mm hh) 1681), nI c, A, B, C, li, hu)) : ∀ (d k : Nat) (hu : Nat → Int32), k + d = c → (∀ j, j < k → hu j = cx j + 64 * cy j) → wY_walk_22 post nn (nI (ih_cn (ih_F mm hh) 1681)) (d + 1) (cx (ih_aj c k) + 64 * cy (ih_aj c k)) (nI k) (nI k) A B C li hu := by
  have c82 := hH.1
  have w0 := (ih_L0 hC hL hH hc).1
  have p0 := ih_Sp hC (hH.2.1 0 hc)
  have e0 : cx 0 + 64 * cy 0 = li 0 := (ih_We p0.1 w0).mpr rfl
  intro d
  induction d with
  | zero =>
    intro k hu hk hj
    have ek : k = c := by omega
    rw [show ih_aj c k = 0 by unfold ih_aj; rw [if_neg (by omega)]]
    rw [ek] at hj ⊢
    exact br_f (nI_ge (b := 256) (by omega) (by omega)) (br_f (nI_ne0 hc (by omega)) (br_t e0 (K hu hj)))
  | succ d ih =>
    intro k hu hk hj
    have kc : k < c := by omega
    rw [show ih_aj c k = k by unfold ih_aj; rw [if_pos kc]]
    have pk := ih_Sp hC (hH.2.1 k kc)
    have v : vp_in (nI k) 256 := vp_in_nI (by omega) (by omega)
    have e : (nI k).toNatClampNeg = k := nI_clamp (by omega)
    have ac : ih_af c k < c := by
      unfold ih_af
      split <;> omega
    have pa := ih_Sp hC (hH.2.1 (ih_af c k) ac)
    have go : wY_walk_43 post (wY_walk_22 post nn (nI (ih_cn (ih_F mm hh) 1681)) (d + 1)) (cx k + 64 * cy k) (nI k) nn (nI (ih_cn (ih_F mm hh) 1681)) (nI k) A B C li hu := by
      refine ⟨v, nm_r (e' := upd hu k (cx k + 64 * cy k)) (by rw [e]) (nm_r (nI_1 k) (ih_ynext hC hL (ih_HN hH kc) pk.1 pa.1 (hH.2.1 _ ac) (nm_r (nI_1 k) ?_)))⟩
      refine ih (k + 1) (upd hu k (cx k + 64 * cy k)) (by omega) (fun j hj' => ?_)
      by_cases z : j = k
      · rw [z, pk_us]
      · rw [pk_un z]
        exact hj j (by omega)
    refine br_f (nI_ge (b := 256) (by omega) (by omega)) ?_
    by_cases k0 : k = 0
    · exact br_t (by rw [k0]; rfl) go
    · refine br_f (nI_ne0 (by omega) (by omega)) (br_f (fun w => ?_) go)
      exact hH.2.2.2.2.2.1 k (by omega) kc ((ih_We pk.1 w0).mp w)
theorem ih_ywalk {post : SY → Prop} {mm hh : Nat → Nat} {cx cy : Nat → Int32} {c : Nat} (hC : ih_C mm hh) (hL : ih_LF mm hh li) (hH : ih_HC (ih_S mm hh) c (ih_p cx cy)) (K : ∀ hu : Nat → Int32, (∀ j, j < c → hu j = cx j + 64 * cy j) → post (nn, nI (ih_cn (ih_F mm hh) 1681), nI c, A, B, C, li, hu)) : wpY_walk post (nn, nI (ih_cn (ih_F mm hh) 1681), hs, A, B, C, li, hu) := by
  have L1 := ih_cle (ih_F mm hh) 1681
  have z0 := ih_c0 hC hL hH
  by_cases hc : c = 0
  · have k := K hu (fun j hj => by omega)
    rw [hc] at k
    exact br_t (by rw [z0.mpr hc]; rfl) k
  · have w0 := (ih_L0 hC hL hH (by omega)).1
    have p0 := ih_Sp hC (hH.2.1 0 (by omega))
    have e0 : li 0 = cx 0 + 64 * cy 0 := (ih_We w0 p0.1).mpr rfl
    have i2 := ih_ywk hC hL hH (by omega) K c 0 hu (Nat.zero_add c) (fun j hj => absurd hj (Nat.not_lt_zero j))
    rw [show ih_aj c 0 = 0 by unfold ih_aj; split <;> rfl] at i2
    have nz : ih_cn (ih_F mm hh) 1681 ≠ 0 := fun w => hc (z0.mp w)
    exact br_f (nI_ne0 (by omega) (by omega)) (nm_r e0 ⟨c + 1, i2⟩)
theorem ih_yrf7 {post : SY → Prop} {mm hh : Nat → Nat} {lw hg cx cy : Nat → Int32} {c : Nat} (hn : n ≤ 8) (hX : ih_XF n A B C lw hg cx cy c mm hh) (K : ∀ li hu : Nat → Int32, ih_YF mm hh c cx cy li hu → post (nI n, nI (ih_cn (ih_F mm hh) 1681), nI c, A, B, C, li, hu)) : ∀ (d i : Nat) (li : Nat → Int32), i + d = 1681 → (∀ j, j < i → ih_F mm hh j → li (ih_cn (ih_F mm hh) j) = nI (j / 41 + 64 * (j % 41))) → wY_refresh_7 post (nI n) hs (d + 1) (nI i) (nI (ih_cn (ih_F mm hh) i)) A B C li hu := by
  have hC : ih_C mm hh := fun x hx => (hX.1 x hx).2.2.2.1
  intro d
  induction d with
  | zero =>
    intro i li hi hl
    have ei : i = 1681 := by omega
    rw [ei] at hl ⊢
    exact br_t (nI_le (a := 1681) (by omega) (by omega)) (ih_ywalk hC hl hX.2 (fun hu hh' => K li hu ⟨hl, hh'⟩))
  | succ d ih =>
    intro i li hi hl
    have e2 : nI i - nI i / 41 * 41 = nI (i % 41) := pk_rem (a := i) (d := 41) (by omega) (by omega) (by omega)
    have e1 : nI i / 41 = nI (i / 41) := pk_div (a := i) (d := 41) (by omega) (by omega) (by omega)
    have d41 : ¬ (41 : Int32) = 0 := by decide
    have kf := (hX.1 (i / 41) (by omega)).2.2.2.2 (i % 41) (by omega)
    refine br_f (nI_ge (b := 1681) (by omega) (by omega)) ⟨d41, d41, ?_⟩
    rw [e2, e1]
    refine ih_yhas (by omega) (by omega) hn (fun k => ?_) (fun k => ?_)
    · have hF : ih_F mm hh i := kf.mp k
      have ci := ih_cle (ih_F mm hh) i
      have v : vp_in (nI (ih_cn (ih_F mm hh) i)) 1681 := vp_in_nI (by omega) (by omega)
      have e : (nI (ih_cn (ih_F mm hh) i)).toNatClampNeg = ih_cn (ih_F mm hh) i := nI_clamp (by omega)
      refine br_f (by decide) ⟨d41, d41, v, nm_r (e' := upd li (ih_cn (ih_F mm hh) i) (nI (i / 41 + 64 * (i % 41)))) (by rw [e, ih_64]) (nm_r (nI_1 _) (nm_r (nI_1 i) ?_))⟩
      rw [← ih_cs hF]
      refine ih (i + 1) _ (by omega) (fun j hj hFj => ?_)
      by_cases z : j = i
      · rw [z, pk_us]
      · have := ih_clt hFj (show j < i by omega)
        rw [pk_un (by omega)]
        exact hl j (by omega) hFj
    · have hF : ¬ ih_F mm hh i := fun w => k (kf.mpr w)
      refine br_t rfl (nm_r (nI_1 i) ?_)
      rw [← ih_cf hF]
      refine ih (i + 1) _ (by omega) (fun j hj hFj => ?_)
      by_cases z : j = i
      · rw [z] at hFj
        exact absurd hFj hF
      · exact hl j (by omega) hFj
theorem ih_yref {post : SY → Prop} {mm hh : Nat → Nat} {lw hg cx cy : Nat → Int32} {c : Nat} (hn : n ≤ 8) (hX : ih_XF n A B C lw hg cx cy c mm hh) (K : ∀ li hu : Nat → Int32, ih_YF mm hh c cx cy li hu → post (nI n, nI (ih_cn (ih_F mm hh) 1681), nI c, A, B, C, li, hu)) : wpY_refresh post (nI n, ll, hs, A, B, C, li, hu) :=
  ⟨1682, ih_yrf7 hn hX K 1681 0 li (by omega) (fun j hj => absurd hj (Nat.not_lt_zero j))⟩
end YW
end
section
/-- the same conditions on both sides; X's columns and corners, Y's list and hull -/
def i_Rel (_ : Nat) (u : SX) (v : SY) : Prop :=
  ∃ (n c : Nat) (A B C lw hg cx cy li hu : Nat → Int32) (mm hh : Nat → Nat), n ≤ 8 ∧ ih_Rg n A B ∧ ih_XF n A B C lw hg cx cy c mm hh ∧ ih_YF mm hh c cx cy li hu ∧
    u = (nI n, nI c, A, B, C, lw, hg, cx, cy) ∧ v = (nI n, nI (ih_cn (ih_F mm hh) 1681), nI c, A, B, C, li, hu)
theorem i_up {k : Nat} {u : SX} {v : SY} (h : i_Rel k u v) : i_Rel (k + 4) u v := h
theorem ih_rel {k n c : Nat} {A B C lw hg cx cy li hu : Nat → Int32} {mm hh : Nat → Nat} (hn : n ≤ 8) (hR : ih_Rg n A B) (hX : ih_XF n A B C lw hg cx cy c mm hh) (hY : ih_YF mm hh c cx cy li hu) : i_Rel k (nI n, nI c, A, B, C, lw, hg, cx, cy) (nI n, nI (ih_cn (ih_F mm hh) 1681), nI c, A, B, C, li, hu) :=
  ⟨n, c, A, B, C, lw, hg, cx, cy, li, hu, mm, hh, hn, hR, hX, hY, rfl, rfl⟩
theorem i_vc0 : wpX_init (fun u => wpY_init (fun v => i_Rel 0 u v)) := by
  have hR : ih_Rg 0 (fun _ => 0) (fun _ => 0) := fun i hi => absurd hi (Nat.not_lt_zero i)
  unfold wpX_init
  refine ih_xref (n := 0) (A := fun _ => 0) (B := fun _ => 0) (C := fun _ => 0) (by omega) hR (fun lw hg cx cy c mm hh hX => ?_)
  show wpY_init (fun v => i_Rel 0 (nI 0, nI c, fun _ => 0, fun _ => 0, fun _ => 0, lw, hg, cx, cy) v)
  unfold wpY_init
  exact ih_yref (n := 0) (A := fun _ => 0) (B := fun _ => 0) (C := fun _ => 0) (by omega) hX (fun li hu hY => ih_rel (by omega) hR hX hY)
theorem ih_w9 {a : Int32} (h1 : ¬ a < (-9)) (h2 : ¬ 9 < a) : -100 ≤ a.toInt ∧ a.toInt ≤ 100 := by
  rw [Int32.lt_iff_toInt_lt] at h1 h2
  rw [show (-9 : Int32).toInt = -9 by decide] at h1
  rw [show (9 : Int32).toInt = 9 by decide] at h2
  omega
theorem ih_RgU {n : Nat} {A B : Nat → Int32} {a b : Int32} (h : ih_Rg n A B) (ha : -100 ≤ a.toInt ∧ a.toInt ≤ 100) (hb : -100 ≤ b.toInt ∧ b.toInt ≤ 100) : ih_Rg (n + 1) (upd A n a) (upd B n b) := by
  intro i hi
  by_cases e : i = n
  · rw [e, pk_us, pk_us]
    exact ⟨ha, hb⟩
  · rw [pk_un e, pk_un e]
    exact h i (by omega)
theorem ih_xwi {post : Int32 → Prop} {a m : Int32} (h1 : ¬ a < (-m)) (h2 : ¬ m < a) (h : post 1) : wpX_within post a m := br_f h1 (br_f h2 h)
theorem ih_xwl {post : Int32 → Prop} {a m : Int32} (h1 : a < (-m)) (h : post 0) : wpX_within post a m := br_t h1 h
theorem ih_xwg {post : Int32 → Prop} {a m : Int32} (h1 : ¬ a < (-m)) (h2 : m < a) (h : post 0) : wpX_within post a m := br_f h1 (br_t h2 h)
theorem ih_nz1 : ¬ (1 : Int32) = 0 := by decide
theorem i_vc_condition {k : Nat} {u : SX} {v : SY} (I : i_Rel k u v) (hk : k + 4 ≤ 2048) (v1 : Int32) (v2 : Int32) (v3 : Int32) : wpX_condition (fun r u' => wpY_condition (fun r' v' => r' = r ∧ i_Rel (k + 4) u' v') v v1 v2 v3) u v1 v2 v3 := by
  obtain ⟨n, c, A, B, C, lw, hg, cx, cy, li, hu, mm, hh, hn, hR, hX, hY, rfl, rfl⟩ := I
  unfold wpX_condition
  dsimp only
  have bad : i_Rel (k + 4) (nI n, nI c, A, B, C, lw, hg, cx, cy) (nI n, nI (ih_cn (ih_F mm hh) 1681), nI c, A, B, C, li, hu) := ih_rel hn hR hX hY
  by_cases a1 : v1 < (-9)
  · exact ih_xwl a1 (br_t rfl (br_t a1 (br_t rfl ⟨rfl, bad⟩)))
  by_cases a2 : 9 < v1
  · exact ih_xwg a1 a2 (br_t rfl (br_f a1 (br_t a2 (br_t rfl ⟨rfl, bad⟩))))
  refine ih_xwi a1 a2 (br_f ih_nz1 ?_)
  by_cases b1 : v2 < (-9)
  · exact ih_xwl b1 (br_t rfl (br_f a1 (br_f a2 (br_t b1 (br_t rfl ⟨rfl, bad⟩)))))
  by_cases b2 : 9 < v2
  · exact ih_xwg b1 b2 (br_t rfl (br_f a1 (br_f a2 (br_f b1 (br_t b2 (br_t rfl ⟨rfl, bad⟩))))))
  refine ih_xwi b1 b2 (br_f ih_nz1 ?_)
  by_cases c1 : v3 < (-1000)
  · exact ih_xwl c1 (br_t rfl (br_f a1 (br_f a2 (br_f b1 (br_f b2 (br_t c1 (br_t rfl ⟨rfl, bad⟩)))))))
  by_cases c2 : 1000 < v3
  · exact ih_xwg c1 c2 (br_t rfl (br_f a1 (br_f a2 (br_f b1 (br_f b2 (br_f c1 (br_t c2 (br_t rfl ⟨rfl, bad⟩))))))))
  refine ih_xwi c1 c2 (br_f ih_nz1 ?_)
  have good : ∀ post : Int32 → SX → Prop, (∀ r u', wpY_condition (fun r' v' => r' = r ∧ i_Rel (k + 4) u' v') (nI n, nI (ih_cn (ih_F mm hh) 1681), nI c, A, B, C, li, hu) v1 v2 v3 → post r u') → (¬ (v1 = 0 ∧ v2 = 0)) → wX_condition_40 post v1 v2 v3 (nI n) (nI c) A B C lw hg cx cy := by
    intro post hp hz
    have yy : ∀ post' : Int32 → SY → Prop, wY_condition_60 post' v1 v2 v3 (nI n) (nI (ih_cn (ih_F mm hh) 1681)) (nI c) A B C li hu → wpY_condition post' (nI n, nI (ih_cn (ih_F mm hh) 1681), nI c, A, B, C, li, hu) v1 v2 v3 := by
      intro post' h
      refine br_f a1 (br_f a2 (br_f b1 (br_f b2 (br_f c1 (br_f c2 (br_f ih_nz1 ?_))))))
      by_cases z1 : v1 = 0
      · exact br_t z1 (br_f (fun z2 => hz ⟨z1, z2⟩) h)
      · exact br_f z1 h
    by_cases h8 : n < 8
    · have v : vp_in (nI n) 8 := vp_in_nI h8 (by omega)
      have e : (nI n).toNatClampNeg = n := nI_clamp (by omega)
      have hR' := ih_RgU hR (ih_w9 a1 a2) (ih_w9 b1 b2)
      refine br_t (nI_lt (b := 8) h8 (by omega)) ⟨v, nm_r (e' := upd A n v1) (by rw [e]) ⟨v, nm_r (e' := upd B n v2) (by rw [e]) ⟨v, nm_r (e' := upd C n v3) (by rw [e]) (nm_r (nI_1 n) (ih_xref (by omega) hR' (fun lw' hg' cx' cy' c' mm' hh' hX' => hp _ _ (yy _ ?_))))⟩⟩⟩
      refine br_f (fun z => ?_) ⟨v, nm_r (e' := upd A n v1) (by rw [e]) ⟨v, nm_r (e' := upd B n v2) (by rw [e]) ⟨v, nm_r (e' := upd C n v3) (by rw [e]) (nm_r (nI_1 n) (ih_yref (by omega) hX' (fun li' hu' hY' => ⟨rfl, ih_rel (by omega) hR' hX' hY'⟩)))⟩⟩⟩
      have := (nI_eq (a := n) (b := 8) (by omega) (by omega)).mp z
      omega
    · have e8 : n = 8 := by omega
      refine br_f (nI_nlt (b := 8) (by omega) (by omega)) (hp _ _ (yy _ (br_t ?_ ⟨rfl, bad⟩)))
      rw [e8]
      rfl
  by_cases z1 : v1 = 0
  · refine br_t z1 ?_
    by_cases z2 : v2 = 0
    · exact br_t z2 (br_f a1 (br_f a2 (br_f b1 (br_f b2 (br_f c1 (br_f c2 (br_f ih_nz1 (br_t z1 (br_t z2 ⟨rfl, bad⟩)))))))))
    · exact br_f z2 (good _ (fun r u' h => h) (fun w => z2 w.2))
  · exact br_f z1 (good _ (fun r u' h => h) (fun w => z1 w.1))
theorem i_vc_drop {k : Nat} {u : SX} {v : SY} (I : i_Rel k u v) (hk : k + 4 ≤ 2048) : wpX_drop (fun r u' => wpY_drop (fun r' v' => r' = r ∧ i_Rel (k + 4) u' v') v) u := by
  obtain ⟨n, c, A, B, C, lw, hg, cx, cy, li, hu, mm, hh, hn, hR, hX, hY, rfl, rfl⟩ := I
  by_cases z : n = 0
  · have e0 : nI n = 0 := by rw [z]; rfl
    exact br_t e0 (br_t e0 ⟨rfl, ih_rel hn hR hX hY⟩)
  · have e0 : ¬ nI n = 0 := nI_ne0 (by omega) (by omega)
    have e1 : nI n - 1 = nI (n - 1) := by
      rw [show (1 : Int32) = nI 1 from rfl, pk_sub (by omega)]
    have hR' : ih_Rg (n - 1) A B := fun i hi => hR i (by omega)
    exact br_f e0 (nm_r e1 (ih_xref (by omega) hR' (fun lw' hg' cx' cy' c' mm' hh' hX' => br_f e0 (nm_r e1 (ih_yref (by omega) hX' (fun li' hu' hY' => ⟨rfl, ih_rel (by omega) hR' hX' hY'⟩))))))
theorem i_vc_shift {k : Nat} {u : SX} {v : SY} (I : i_Rel k u v) (hk : k + 4 ≤ 2048) (v1 : Int32) (v2 : Int32) : wpX_shift (fun r u' => wpY_shift (fun r' v' => r' = r ∧ i_Rel (k + 4) u' v') v v1 v2) u v1 v2 := by
  obtain ⟨n, c, A, B, C, lw, hg, cx, cy, li, hu, mm, hh, hn, hR, hX, hY, rfl, rfl⟩ := I
  have bad : i_Rel (k + 4) (nI n, nI c, A, B, C, lw, hg, cx, cy) (nI n, nI (ih_cn (ih_F mm hh) 1681), nI c, A, B, C, li, hu) := ih_rel hn hR hX hY
  by_cases a1 : v1 < 0
  · exact br_t a1 (br_t a1 ⟨rfl, bad⟩)
  by_cases a2 : v1 < nI n
  · refine br_f a1 (br_t a2 ?_)
    by_cases b1 : v2 < (-1000)
    · exact ih_xwl b1 (br_t rfl (br_f a1 (br_t a2 (br_t b1 ⟨rfl, bad⟩))))
    by_cases b2 : 1000 < v2
    · exact ih_xwg b1 b2 (br_t rfl (br_f a1 (br_t a2 (br_f b1 (br_f (Int32.not_le.mpr b2) ⟨rfl, bad⟩)))))
    obtain ⟨i, hi, rfl⟩ := nI_of a1
    rw [nI_ltI hi (by omega)] at a2
    have a2' : nI i < nI n := nI_lt a2 (by omega)
    have v : vp_in (nI i) 8 := vp_in_nI (by omega) (by omega)
    have e : (nI i).toNatClampNeg = i := nI_clamp (by omega)
    refine ih_xwi b1 b2 (br_f ih_nz1 ⟨v, nm_r (e' := C i) (by rw [e]) ⟨v, nm_r (e' := upd C i v2) (by rw [e]) (ih_xref hn hR (fun lw' hg' cx' cy' c' mm' hh' hX' => ?_))⟩⟩)
    exact br_f a1 (br_t a2' (br_f b1 (br_t (Int32.not_lt.mp b2) ⟨v, nm_r (e' := C i) (by rw [e]) ⟨v, nm_r (e' := upd C i v2) (by rw [e]) (ih_yref hn hX' (fun li' hu' hY' => ⟨rfl, ih_rel hn hR hX' hY'⟩))⟩⟩)))
  · exact br_f a1 (br_f a2 (br_f a1 (br_f a2 ⟨rfl, bad⟩)))
section XC
variable {nn cc : Int32} {A B C lw hg cx cy : Nat → Int32} {mm hh : Nat → Nat}
theorem ih_XQ {n c : Nat} (hX : ih_XF n A B C lw hg cx cy c mm hh) : ih_Q mm hh lw hg := fun x hx => ⟨(hX.1 x hx).1, (hX.1 x hx).2.1, (hX.1 x hx).2.2.1, (hX.1 x hx).2.2.2.1⟩
theorem ih_xgr {post : Int32 → Prop} {x : Nat} (hx : x ≤ 40) (h : post 1) : wpX_onGrid post (nI x) := br_f (nI_pos (by omega)) (br_f (nI_nlt (a := 40) hx (by omega)) h)
theorem ih_xcol {post : Int32 → Prop} (hQ : ih_Q mm hh lw hg) {x : Nat} (hx : x ≤ 40) (h : post (nI (hh x - mm x))) : wpX_column post (nn, cc, A, B, C, lw, hg, cx, cy) (nI x) := by
  obtain ⟨q1, q2, q3, q4⟩ := hQ x hx
  have v : vp_in (nI x) 41 := vp_in_nI (by omega) (by omega)
  have e : (nI x).toNatClampNeg = x := nI_clamp (by omega)
  unfold wpX_column
  dsimp only
  refine ih_xgr hx ?_
  refine br_f ih_nz1 ⟨v, v, ?_⟩
  rw [e, q1, q2, show nI (hh x) + (-1) - nI (mm x) + 1 = nI (hh x) - nI (mm x) by grind, pk_sub q3]
  exact h
theorem ih_xpt4 {post : Int32 → Prop} (hQ : ih_Q mm hh lw hg) (K : post (nI (ih_cn (ih_F mm hh) 1681))) : ∀ d x, x + d = 41 → wX_points_4 post nn cc A B C lw hg cx cy (d + 1) (nI (ih_cn (ih_F mm hh) (41 * x))) (nI x) := by
  intro d
  induction d with
  | zero =>
    intro x hx
    have ex : x = 41 := by omega
    rw [ex]
    exact br_t (nI_lt (a := 40) (by omega) (by omega)) K
  | succ d ih =>
    intro x hx
    obtain ⟨q1, q2, q3, q4⟩ := hQ x (by omega)
    have e := ih_ccol (P := ih_F mm hh) (x := x) q3 q4 (fun y hy => ih_Fi hy)
    refine br_f (nI_nlt (a := 40) (by omega) (by omega)) (ih_xcol hQ (by omega) (nm_r (nI_add _ _) (nm_r (nI_1 x) ?_)))
    rw [← e]
    exact ih (x + 1) (by omega)
end XC
theorem i_vc_points {k : Nat} {u : SX} {v : SY} (I : i_Rel k u v) (hk : k + 4 ≤ 2048) : wpX_points (fun r => wpY_points (fun r' => r' = r ∧ i_Rel (k + 4) u v) v) u := by
  obtain ⟨n, c, A, B, C, lw, hg, cx, cy, li, hu, mm, hh, hn, hR, hX, hY, rfl, rfl⟩ := I
  exact ⟨42, ih_xpt4 (ih_XQ hX) ⟨rfl, ih_rel hn hR hX hY⟩ 41 0 (by omega)⟩
theorem i_vc_has {k : Nat} {u : SX} {v : SY} (I : i_Rel k u v) (hk : k + 4 ≤ 2048) (v1 : Int32) (v2 : Int32) : wpX_has (fun r => wpY_has (fun r' => r' = r ∧ i_Rel (k + 4) u v) v v1 v2) u v1 v2 := by
  obtain ⟨n, c, A, B, C, lw, hg, cx, cy, li, hu, mm, hh, hn, hR, hX, hY, rfl, rfl⟩ := I
  have R : i_Rel (k + 4) (nI n, nI c, A, B, C, lw, hg, cx, cy) (nI n, nI (ih_cn (ih_F mm hh) 1681), nI c, A, B, C, li, hu) := ih_rel hn hR hX hY
  by_cases a1 : v1 < 0
  · exact br_t a1 (br_t rfl (br_t a1 ⟨rfl, R⟩))
  by_cases a2 : 40 < v1
  · exact br_f a1 (br_t a2 (br_t rfl (br_f a1 (br_t a2 ⟨rfl, R⟩))))
  obtain ⟨x, hx, rfl⟩ := nI_of2 (n := 40) (M := 40) (by decide) a1 (Int32.not_lt.mp a2)
  obtain ⟨q1, q2, q3, q4⟩ := ih_XQ hX x hx
  have v : vp_in (nI x) 41 := vp_in_nI (by omega) (by omega)
  have e : (nI x).toNatClampNeg = x := nI_clamp (by omega)
  have t1 : (lw x).toInt = (mm x : Int) := by rw [q1]; exact nI_toInt (by omega)
  have t2 : (hg x).toInt = (hh x : Int) - 1 := by rw [q2]; exact ih_ht q4
  have t40 : (40 : Int32).toInt = 40 := by decide
  unfold wpX_has
  dsimp only
  refine ih_xgr hx ?_
  refine br_f ih_nz1 ⟨v, ?_⟩
  rw [e]
  by_cases b1 : v2 < 0
  · refine br_t ?_ (br_f a1 (br_f a2 (br_t b1 ⟨rfl, R⟩)))
    rw [Int32.lt_iff_toInt_lt] at b1 ⊢
    rw [ih_0t] at b1
    omega
  by_cases b2 : v2 ≤ 40
  · obtain ⟨y, hy, rfl⟩ := nI_of2 (n := 40) (M := 40) (by decide) b1 b2
    have ty : (nI y).toInt = (y : Int) := nI_toInt (by omega)
    have kf := (hX.1 x hx).2.2.2.2 y hy
    by_cases z1 : nI y < lw x
    · refine br_t z1 (ih_yhas hx hy hn (fun w => ?_) (fun _ => ⟨rfl, R⟩))
      rw [Int32.lt_iff_toInt_lt, t1, ty] at z1
      have := kf.mp w
      omega
    by_cases z2 : hg x < nI y
    · refine br_f z1 ⟨v, br_t z2 (ih_yhas hx hy hn (fun w => ?_) (fun _ => ⟨rfl, R⟩))⟩
      rw [Int32.lt_iff_toInt_lt, t2, ty] at z2
      have := kf.mp w
      omega
    · refine br_f z1 ⟨v, br_f z2 (ih_yhas hx hy hn (fun _ => ⟨rfl, R⟩) (fun w => ?_))⟩
      rw [Int32.lt_iff_toInt_lt, t1, ty] at z1
      rw [Int32.lt_iff_toInt_lt, t2, ty] at z2
      exact absurd (kf.mpr ⟨by omega, by omega⟩) w
  · have Y : wpY_has (fun r' => r' = 0 ∧ i_Rel (k + 4) (nI n, nI c, A, B, C, lw, hg, cx, cy) (nI n, nI (ih_cn (ih_F mm hh) 1681), nI c, A, B, C, li, hu)) (nI n, nI (ih_cn (ih_F mm hh) 1681), nI c, A, B, C, li, hu) (nI x) v2 := br_f a1 (br_f a2 (br_f b1 (br_f b2 ⟨rfl, R⟩)))
    by_cases z1 : v2 < lw x
    · exact br_t z1 Y
    · refine br_f z1 ⟨v, br_t ?_ Y⟩
      rw [Int32.le_iff_toInt_le] at b2
      rw [Int32.lt_iff_toInt_lt]
      omega
theorem i_vc_corners {k : Nat} {u : SX} {v : SY} (I : i_Rel k u v) (hk : k + 4 ≤ 2048) : wpX_corners (fun r => wpY_corners (fun r' => r' = r ∧ i_Rel (k + 4) u v) v) u := by
  obtain ⟨n, c, A, B, C, lw, hg, cx, cy, li, hu, mm, hh, hn, hR, hX, hY, rfl, rfl⟩ := I
  exact ⟨rfl, ih_rel hn hR hX hY⟩
theorem i_vc_corner {k : Nat} {u : SX} {v : SY} (I : i_Rel k u v) (hk : k + 4 ≤ 2048) (v1 : Int32) : wpX_corner (fun r => wpY_corner (fun r' => r' = r ∧ i_Rel (k + 4) u v) v v1) u v1 := by
  obtain ⟨n, c, A, B, C, lw, hg, cx, cy, li, hu, mm, hh, hn, hR, hX, hY, rfl, rfl⟩ := I
  have R : i_Rel (k + 4) (nI n, nI c, A, B, C, lw, hg, cx, cy) (nI n, nI (ih_cn (ih_F mm hh) 1681), nI c, A, B, C, li, hu) := ih_rel hn hR hX hY
  have c82 := hX.2.1
  by_cases a1 : v1 < 0
  · exact br_t a1 (br_t a1 ⟨rfl, R⟩)
  by_cases a2 : v1 < nI c
  · obtain ⟨i, hi, rfl⟩ := nI_of a1
    have a3 := a2
    rw [nI_ltI hi (by omega)] at a3
    have e : (nI i).toNatClampNeg = i := nI_clamp (by omega)
    refine br_f a1 (br_t a2 ⟨vp_in_nI (by omega) (by omega), vp_in_nI (by omega) (by omega), br_f a1 (br_f (Int32.not_le.mpr a2) ⟨vp_in_nI (by omega) (by omega), ?_, R⟩)⟩)
    rw [e]
    exact hY.2 i a3
  · exact br_f a1 (br_f a2 (br_f a1 (br_t (Int32.not_lt.mp a2) ⟨rfl, R⟩)))
end
section
section YC
variable {nn hs : Int32} {A B C li hu : Nat → Int32}
theorem ih_yco4 {post : Int32 → Prop} {L : Nat} {x1 : Int32} (hL : L ≤ 1681) (K : post (nI (ih_cn (fun k => li k &&& 63 = x1) L))) : ∀ d k, k + d = L → wY_column_4 post x1 nn (nI L) hs A B C li hu (d + 1) (nI (ih_cn (fun k => li k &&& 63 = x1) k)) (nI k) := by
  intro d
  induction d with
  | zero =>
    intro k hk
    have ek : k = L := by omega
    rw [ek]
    exact br_t (nI_le (by omega) (by omega)) K
  | succ d ih =>
    intro k hk
    have v : vp_in (nI k) 1681 := vp_in_nI (by omega) (by omega)
    have e : (nI k).toNatClampNeg = k := nI_clamp (by omega)
    have i2 := ih (k + 1) (by omega)
    refine br_f (nI_ge (by omega) (by omega)) ⟨v, ?_⟩
    rw [e]
    show (li k &&& 63 = x1 → _) ∧ (¬ li k &&& 63 = x1 → _)
    by_cases z : li k &&& 63 = x1
    · rw [ih_cs (P := fun k => li k &&& 63 = x1) z] at i2
      exact br_t z (nm_r (nI_1 _) (nm_r (nI_1 k) i2))
    · rw [ih_cf (P := fun k => li k &&& 63 = x1) z] at i2
      exact br_f z (nm_r (nI_1 k) i2)
theorem ih_ycol {post : Int32 → Prop} {mm hh : Nat → Nat} {x1 : Int32} (hC : ih_C mm hh) (hF : ih_LF mm hh li) (K : post (nI (ih_cn (fun i => ih_F mm hh i ∧ nI (i / 41) = x1) 1681))) : wpY_column post (nn, nI (ih_cn (ih_F mm hh) 1681), hs, A, B, C, li, hu) x1 := by
  have e := ih_ccl (F := ih_F mm hh) (Q := fun k => li k &&& 63 = x1) (Q' := fun i => nI (i / 41) = x1) 1681 (fun i hi hFi => by
    show li (ih_cn (ih_F mm hh) i) &&& 63 = x1 ↔ _
    rw [hF i hi hFi, ih_px (by omega) (by omega)])
  rw [← e] at K
  exact ⟨ih_cn (ih_F mm hh) 1681 + 1, ih_yco4 (ih_cle _ 1681) K (ih_cn (ih_F mm hh) 1681) 0 (Nat.zero_add _)⟩
end YC
theorem i_vc_column {k : Nat} {u : SX} {v : SY} (I : i_Rel k u v) (hk : k + 4 ≤ 2048) (v1 : Int32) : wpX_column (fun r => wpY_column (fun r' => r' = r ∧ i_Rel (k + 4) u v) v v1) u v1 := by
  obtain ⟨n, c, A, B, C, lw, hg, cx, cy, li, hu, mm, hh, hn, hR, hX, hY, rfl, rfl⟩ := I
  have R : i_Rel (k + 4) (nI n, nI c, A, B, C, lw, hg, cx, cy) (nI n, nI (ih_cn (ih_F mm hh) 1681), nI c, A, B, C, li, hu) := ih_rel hn hR hX hY
  have hQ := ih_XQ hX
  have hC := ih_QC hQ
  by_cases a1 : v1 < 0
  · refine br_t a1 (br_t rfl (ih_ycol hC hY.1 ⟨?_, R⟩))
    rw [ih_Kno (R := fun i => nI (i / 41) = v1) (fun i hi w => nI_pos (n := i / 41) (by omega) (by rw [w]; exact a1))]
    rfl
  by_cases a2 : 40 < v1
  · refine br_f a1 (br_t a2 (br_t rfl (ih_ycol hC hY.1 ⟨?_, R⟩)))
    rw [ih_Kno (R := fun i => nI (i / 41) = v1) (fun i hi w => nI_nlt (a := 40) (b := i / 41) (by omega) (by omega) (by rw [w]; exact a2))]
    rfl
  obtain ⟨x, hx, rfl⟩ := nI_of2 (n := 40) (M := 40) (by decide) a1 (Int32.not_lt.mp a2)
  obtain ⟨q1, q2, q3, q4⟩ := hQ x hx
  refine ih_xcol hQ hx (ih_ycol hC hY.1 ⟨?_, R⟩)
  have e : ih_cn (fun i => ih_F mm hh i ∧ nI (i / 41) = nI x) 1681 = ih_cn (fun i => ih_F mm hh i ∧ i / 41 = x) 1681 := ih_ccg 1681 (fun i hi => by
    show ih_F mm hh i ∧ nI (i / 41) = nI x ↔ ih_F mm hh i ∧ i / 41 = x
    rw [nI_eq (by omega) (by omega)])
  rw [e, ih_Kcol hx q3 q4]
end
section
section EX
variable {nn : Int32} {A B C lw hg cx cy : Nat → Int32} {c : Nat} {mm hh : Nat → Nat}
theorem ih_xca {post : Int32 → Prop} {i : Nat} (hc : c ≤ 82) (hi : i < c) (h : post (nI (ih_af c i))) : wpX_cornerAfter post (nn, nI c, A, B, C, lw, hg, cx, cy) (nI i) := by
  unfold ih_af at h
  unfold wpX_cornerAfter
  dsimp only
  rw [nI_1 i]
  by_cases z : i + 1 < c
  · rw [if_pos z] at h
    exact br_f (nI_ge z (by omega)) h
  · rw [if_neg z] at h
    exact br_t (nI_le (by omega) (by omega)) h
theorem ih_xar4 {post : Int32 → Prop} (hc : c ≤ 82) (K : post (ih_sh cx cy (c - 1) + (cx (c - 1) * cy 0 - cx 0 * cy (c - 1)))) : ∀ d i, i + d + 1 = c → wX_area2_4 post nn (nI c) A B C lw hg cx cy (d + 1 + 1) (ih_sh cx cy i) (nI i) := by
  intro d
  induction d with
  | zero =>
    intro i hi
    have v : vp_in (nI i) 82 := vp_in_nI (by omega) (by omega)
    have e : (nI i).toNatClampNeg = i := nI_clamp (by omega)
    have v0 : vp_in (nI 0) 82 := vp_in_nI (by omega) (by omega)
    have z0 : (nI 0).toNatClampNeg = 0 := nI_clamp (by omega)
    refine br_f (nI_ge (by omega) (by omega)) (ih_xca hc (by omega) ?_)
    rw [show ih_af c i = 0 by unfold ih_af; rw [if_neg (by omega)]]
    refine ⟨v, v0, v0, v, nm_e (nm_r (nI_1 i) ?_)⟩
    rw [e, z0, show i = c - 1 by omega]
    exact br_t (nI_le (by omega) (by omega)) K
  | succ d ih =>
    intro i hi
    have v : vp_in (nI i) 82 := vp_in_nI (by omega) (by omega)
    have e : (nI i).toNatClampNeg = i := nI_clamp (by omega)
    have v1 : vp_in (nI (i + 1)) 82 := vp_in_nI (by omega) (by omega)
    have e1 : (nI (i + 1)).toNatClampNeg = i + 1 := nI_clamp (by omega)
    refine br_f (nI_ge (by omega) (by omega)) (ih_xca hc (by omega) ?_)
    rw [show ih_af c i = i + 1 by unfold ih_af; rw [if_pos (by omega)]]
    refine ⟨v, v1, v1, v, nm_e (nm_r (nI_1 i) ?_)⟩
    rw [e, e1]
    exact ih (i + 1) (by omega)
theorem ih_xoe2 {post : Int32 → Prop} (hC : ih_C mm hh) (hH : ih_HC (ih_S mm hh) c (ih_p cx cy)) {x y : Nat} (hx : x ≤ 40) (hy : y ≤ 40) (h1 : ih_B c (ih_p cx cy) ((x : Int), (y : Int)) → post 1) (h0 : ¬ ih_B c (ih_p cx cy) ((x : Int), (y : Int)) → post 0) : ∀ d i, i + d = c → (∀ j, j < i → ¬ ih_T (ih_p cx cy j) (ih_p cx cy (ih_af c j)) ((x : Int), (y : Int)) = 0) → wX_onEdge_2 post (nI x) (nI y) nn (nI c) A B C lw hg cx cy (d + 1) (nI i) := by
  have c82 := hH.1
  intro d
  induction d with
  | zero =>
    intro i hi hj
    refine br_t (nI_le (by omega) (by omega)) (h0 ?_)
    rintro ⟨j, j1, j2⟩
    exact hj j (by omega) j2
  | succ d ih =>
    intro i hi hj
    have ac : ih_af c i < c := by
      unfold ih_af
      split <;> omega
    have p1 := (ih_Sp hC (hH.2.1 i (by omega))).2.2.2
    have p2 := (ih_Sp hC (hH.2.1 (ih_af c i) ac)).2.2.2
    have t := ih_turn p1.1 p1.2 p2.1 p2.2 (ih_gn hx) (ih_gn hy)
    rw [nI_toInt (n := x) (by omega), nI_toInt (n := y) (by omega)] at t
    refine br_f (nI_ge (by omega) (by omega)) (ih_xca c82 (by omega) (ih_xturn (by omega) (by omega) ?_))
    by_cases z : (cx (ih_af c i) - cx i) * (nI y - cy i) - (cy (ih_af c i) - cy i) * (nI x - cx i) = 0
    · refine br_t z (h1 ⟨i, by omega, ?_⟩)
      rw [ih_eq0, t] at z
      exact z
    · refine br_f z (nm_r (nI_1 i) (ih (i + 1) (by omega) (lt_s hj ?_)))
      rw [ih_eq0, t] at z
      exact z
theorem ih_xoe {post : Int32 → Prop} (hC : ih_C mm hh) (hH : ih_HC (ih_S mm hh) c (ih_p cx cy)) {x y : Nat} (hx : x ≤ 40) (hy : y ≤ 40) (h1 : ih_B c (ih_p cx cy) ((x : Int), (y : Int)) → post 1) (h0 : ¬ ih_B c (ih_p cx cy) ((x : Int), (y : Int)) → post 0) : wpX_onEdge post (nn, nI c, A, B, C, lw, hg, cx, cy) (nI x) (nI y) :=
  ⟨c + 1, ih_xoe2 hC hH hx hy h1 h0 c 0 (Nat.zero_add c) (fun j hj => absurd hj (Nat.not_lt_zero j))⟩
theorem ih_xb17 {post : Int32 → Prop} {J : Int32 → Int32 → Prop} (hQ : ih_Q mm hh lw hg) (hH : ih_HC (ih_S mm hh) c (ih_p cx cy)) {x : Nat} (hx : x ≤ 40) (K : J (nI (ih_cn (ih_G mm hh c (ih_p cx cy)) (41 * (x + 1)))) (nI (x + 1))) : ∀ d y, y + d = hh x → mm x ≤ y → wX_border_17 post J (nI x) nn (nI c) A B C lw hg cx cy (d + 1) (nI (ih_cn (ih_G mm hh c (ih_p cx cy)) (41 * x + y))) (nI y) := by
  obtain ⟨q1, q2, q3, q4⟩ := hQ x hx
  have v : vp_in (nI x) 41 := vp_in_nI (by omega) (by omega)
  have e : (nI x).toNatClampNeg = x := nI_clamp (by omega)
  have t2 : (hg x).toInt = (hh x : Int) - 1 := by rw [q2]; exact ih_ht q4
  intro d
  induction d with
  | zero =>
    intro y hy hm
    have ty : (nI y).toInt = (y : Int) := nI_toInt (by omega)
    refine ⟨v, ?_⟩
    rw [e]
    refine br_t (by rw [Int32.lt_iff_toInt_lt, t2, ty]; omega) (nm_r (nI_1 x) ?_)
    rw [show y = hh x by omega, ← ih_Ghi q4]
    exact K
  | succ d ih =>
    intro y hy hm
    have ty : (nI y).toInt = (y : Int) := nI_toInt (by omega)
    have i2 := ih (y + 1) (by omega) (by omega)
    rw [← Nat.add_assoc] at i2
    refine ⟨v, ?_⟩
    rw [e]
    refine br_f (by rw [Int32.lt_iff_toInt_lt, t2, ty]; omega) (ih_xoe (ih_QC hQ) hH hx (by omega) (fun b => ?_) (fun b => ?_))
    · rw [ih_cs ((ih_Gi (by omega)).mpr ⟨⟨hm, by omega⟩, b⟩)] at i2
      exact br_f ih_nz1 (nm_r (nI_1 _) (nm_r (nI_1 y) i2))
    · rw [ih_cf (fun w => b ((ih_Gi (by omega)).mp w).2)] at i2
      exact br_t rfl (nm_r (nI_1 y) i2)
theorem ih_xb4 {post : Int32 → Prop} (hQ : ih_Q mm hh lw hg) (hH : ih_HC (ih_S mm hh) c (ih_p cx cy)) (K : post (nI (ih_cn (ih_G mm hh c (ih_p cx cy)) 1681))) : ∀ d x, x + d = 41 → wX_border_4 post nn (nI c) A B C lw hg cx cy (d + 1) (nI (ih_cn (ih_G mm hh c (ih_p cx cy)) (41 * x))) (nI x) := by
  intro d
  induction d with
  | zero =>
    intro x hx
    have ex : x = 41 := by omega
    rw [ex]
    exact br_t (nI_lt (a := 40) (by omega) (by omega)) K
  | succ d ih =>
    intro x hx
    obtain ⟨q1, q2, q3, q4⟩ := hQ x (by omega)
    have v : vp_in (nI x) 41 := vp_in_nI (by omega) (by omega)
    have e : (nI x).toNatClampNeg = x := nI_clamp (by omega)
    refine br_f (nI_nlt (a := 40) (by omega) (by omega)) ⟨v, nm_r (e' := nI (mm x)) (by rw [e, q1]) ⟨hh x - mm x + 1, ?_⟩⟩
    have i3 := ih_xb17 (post := post) (nn := nn) (A := A) (B := B) (C := C) (J := wX_border_4 post nn (nI c) A B C lw hg cx cy (d + 1)) hQ hH (x := x) (by omega) (ih (x + 1) (by omega)) (hh x - mm x) (mm x) (by omega) (Nat.le_refl _)
    rw [ih_Glo (by omega)] at i3
    exact i3
end EX
section EY
variable {nn ll : Int32} {A B C li hu cx cy : Nat → Int32} {c : Nat} {mm hh : Nat → Nat}
theorem ih_trh (hC : ih_C mm hh) (hH : ih_HC (ih_S mm hh) c (ih_p cx cy)) (hU : ∀ k, k < c → hu k = cx k + 64 * cy k) {i j k : Nat} (hi : i < c) (hj : j < c) (hk : k < c) : ih_tr (hu i) (hu j) (hu k) = (cx j - cx i) * (cy k - cy i) - (cy j - cy i) * (cx k - cx i) := by
  have pi := ih_Sp hC (hH.2.1 i hi)
  have pj := ih_Sp hC (hH.2.1 j hj)
  have pk := ih_Sp hC (hH.2.1 k hk)
  unfold ih_tr
  rw [hU i hi, hU j hj, hU k hk, pi.2.1, pi.2.2.1, pj.2.1, pj.2.2.1, pk.2.1, pk.2.2.1]
theorem ih_yar4 {post : Int32 → Prop} (hC : ih_C mm hh) (hH : ih_HC (ih_S mm hh) c (ih_p cx cy)) (hU : ∀ k, k < c → hu k = cx k + 64 * cy k) (K : post (ih_sh cx cy (c - 1) - (cx 0 * cy (c - 1) - cx (c - 1) * cy 0))) : ∀ d k, k + d + 1 = c → 1 ≤ k → wY_area2_4 post nn ll (nI c) A B C li hu (d + 1) (ih_sh cx cy k - (cx 0 * cy k - cx k * cy 0)) (nI k) := by
  have c82 := hH.1
  intro d
  induction d with
  | zero =>
    intro k hk h1
    have ek : k = c - 1 := by omega
    have q : nI c ≤ nI k + 1 := by
      rw [nI_1]
      exact nI_le (by omega) (by omega)
    rw [ek] at q ⊢
    exact br_t q K
  | succ d ih =>
    intro k hk h1
    have v : vp_in (nI k) 256 := vp_in_nI (by omega) (by omega)
    have e : (nI k).toNatClampNeg = k := nI_clamp (by omega)
    have v1 : vp_in (nI k + 1) 256 := by
      rw [nI_1]
      exact vp_in_nI (by omega) (by omega)
    have e1 : (nI k + 1).toNatClampNeg = k + 1 := by
      rw [nI_1]
      exact nI_clamp (by omega)
    have q : ¬ nI c ≤ nI k + 1 := by
      rw [nI_1]
      exact nI_ge (by omega) (by omega)
    have i2 := ih (k + 1) (by omega) (by omega)
    refine br_f q ⟨v, v1, ih_yturn (nm_r (e' := ih_sh cx cy (k + 1) - (cx 0 * cy (k + 1) - cx (k + 1) * cy 0)) ?_ (nm_r (nI_1 k) i2))⟩
    rw [e, e1, ih_trh hC hH hU (by omega) (by omega) (by omega)]
    exact ih_fan _ _ _ _ _ _ _
theorem ih_yob2 {post : Int32 → Prop} (hC : ih_C mm hh) (hH : ih_HC (ih_S mm hh) c (ih_p cx cy)) (hU : ∀ k, k < c → hu k = cx k + 64 * cy k) {q : ih_V} {w : Int32} (hw : ih_W q w) (h1 : ih_B c (ih_p cx cy) q → post 1) (h0 : ¬ ih_B c (ih_p cx cy) q → post 0) : ∀ d i, i + d = c → (∀ j, j < i → ¬ ih_T (ih_p cx cy j) (ih_p cx cy (ih_af c j)) q = 0) → wY_onBorder_2 post w nn ll (nI c) A B C li hu (d + 1) (nI i) := by
  have c82 := hH.1
  intro d
  induction d with
  | zero =>
    intro i hi hj
    refine br_t (nI_le (by omega) (by omega)) (h0 ?_)
    rintro ⟨j, j1, j2⟩
    exact hj j (by omega) j2
  | succ d ih =>
    intro i hi hj
    have ac : ih_af c i < c := by
      unfold ih_af
      split <;> omega
    have v : vp_in (nI i) 256 := vp_in_nI (by omega) (by omega)
    have e : (nI i).toNatClampNeg = i := nI_clamp (by omega)
    have p1 := (ih_Sp hC (hH.2.1 i (by omega))).1
    have p2 := (ih_Sp hC (hH.2.1 (ih_af c i) ac)).1
    rw [← hU i (by omega)] at p1
    rw [← hU (ih_af c i) ac] at p2
    have t := ih_Wt p1 p2 hw
    have go : wY_onBorder_37 post (wY_onBorder_2 post w nn ll (nI c) A B C li hu (d + 1)) w (nI i) (hu (ih_af c i)) nn ll (nI c) A B C li hu := by
      refine ⟨v, ih_yturn ?_⟩
      rw [e]
      by_cases z : ih_tr (hu i) (hu (ih_af c i)) w = 0
      · refine br_t z (h1 ⟨i, by omega, ?_⟩)
        rw [ih_eq0, t] at z
        exact z
      · refine br_f z (nm_r (nI_1 i) (ih (i + 1) (by omega) (lt_s hj ?_)))
        rw [ih_eq0, t] at z
        exact z
    refine br_f (nI_ge (by omega) (by omega)) ?_
    rw [nI_1 i]
    by_cases z : i + 1 < c
    · rw [show ih_af c i = i + 1 by unfold ih_af; rw [if_pos z]] at go
      refine br_f (nI_ge z (by omega)) ⟨vp_in_nI (by omega) (by omega), ?_⟩
      rw [nI_clamp (by omega)]
      exact go
    · rw [show ih_af c i = 0 by unfold ih_af; rw [if_neg z]] at go
      exact br_t (nI_le (by omega) (by omega)) go
theorem ih_yob {post : Int32 → Prop} (hC : ih_C mm hh) (hH : ih_HC (ih_S mm hh) c (ih_p cx cy)) (hU : ∀ k, k < c → hu k = cx k + 64 * cy k) {q : ih_V} {w : Int32} (hw : ih_W q w) (h1 : ih_B c (ih_p cx cy) q → post 1) (h0 : ¬ ih_B c (ih_p cx cy) q → post 0) : wpY_onBorder post (nn, ll, nI c, A, B, C, li, hu) w :=
  ⟨c + 1, ih_yob2 hC hH hU hw h1 h0 c 0 (Nat.zero_add c) (fun j hj => absurd hj (Nat.not_lt_zero j))⟩
/-- cell k of the list lies on the border -/
def ih_Qb (li cx cy : Nat → Int32) (c k : Nat) : Prop := ∃ q, ih_W q (li k) ∧ ih_B c (ih_p cx cy) q
theorem ih_yb4 {post : Int32 → Prop} (hC : ih_C mm hh) (hL : ih_LF mm hh li) (hH : ih_HC (ih_S mm hh) c (ih_p cx cy)) (hU : ∀ k, k < c → hu k = cx k + 64 * cy k) {L : Nat} (hLe : L = ih_cn (ih_F mm hh) 1681) (K : post (nI (ih_cn (ih_Qb li cx cy c) L))) : ∀ d k, k + d = L → wY_border_4 post nn (nI L) (nI c) A B C li hu (d + 1) (nI (ih_cn (ih_Qb li cx cy c) k)) (nI k) := by
  have c82 := hH.1
  have L1 : L ≤ 1681 := by
    rw [hLe]
    exact ih_cle _ 1681
  intro d
  induction d with
  | zero =>
    intro k hk
    have ek : k = L := by omega
    rw [ek]
    exact br_t (nI_le (by omega) (by omega)) K
  | succ d ih =>
    intro k hk
    have v : vp_in (nI k) 1681 := vp_in_nI (by omega) (by omega)
    have e : (nI k).toNatClampNeg = k := nI_clamp (by omega)
    obtain ⟨q, hq, hw⟩ := ih_Lk hC hL (k := k) (by rw [← hLe]; omega)
    have i2 := ih (k + 1) (by omega)
    refine br_f (nI_ge (by omega) (by omega)) ?_
    by_cases z : c < 3
    · rw [ih_cs (P := ih_Qb li cx cy c) ⟨q, hw, ih_Bs hH z hq⟩] at i2
      exact br_t (nI_lt (b := 3) z (by omega)) (nm_r (nI_1 _) (nm_r (nI_1 k) i2))
    · refine br_f (nI_nlt (b := 3) (by omega) (by omega)) ⟨v, ?_⟩
      rw [e]
      refine ih_yob hC hH hU hw (fun b => ?_) (fun b => ?_)
      · rw [ih_cs (P := ih_Qb li cx cy c) ⟨q, hw, b⟩] at i2
        exact br_f ih_nz1 (nm_r (nI_1 _) (nm_r (nI_1 k) i2))
      · have nb : ¬ ih_Qb li cx cy c k := by
          rintro ⟨q', hw', b'⟩
          rw [(ih_We hw' hw).mp rfl] at b'
          exact b b'
        rw [ih_cf nb] at i2
        exact br_t rfl (nm_r (nI_1 k) i2)
theorem ih_ybd {post : Int32 → Prop} (hC : ih_C mm hh) (hL : ih_LF mm hh li) (hH : ih_HC (ih_S mm hh) c (ih_p cx cy)) (hU : ∀ k, k < c → hu k = cx k + 64 * cy k) (K : post (nI (ih_cn (ih_G mm hh c (ih_p cx cy)) 1681))) : wpY_border post (nn, nI (ih_cn (ih_F mm hh) 1681), nI c, A, B, C, li, hu) := by
  have e := ih_ccl (F := ih_F mm hh) (Q := ih_Qb li cx cy c) (Q' := fun i => ih_B c (ih_p cx cy) (((i / 41 : Nat) : Int), ((i % 41 : Nat) : Int))) 1681 (fun i hi hFi => by
    have w : ih_W (((i / 41 : Nat) : Int), ((i % 41 : Nat) : Int)) (li (ih_cn (ih_F mm hh) i)) := ⟨i / 41, i % 41, by omega, by omega, rfl, hL i hi hFi⟩
    constructor
    · rintro ⟨q, hw, b⟩
      rw [(ih_We hw w).mp rfl] at b
      exact b
    · intro b
      exact ⟨_, w, b⟩)
  have K' : post (nI (ih_cn (ih_Qb li cx cy c) (ih_cn (ih_F mm hh) 1681))) := by
    rw [e]
    exact K
  exact ⟨ih_cn (ih_F mm hh) 1681 + 1, ih_yb4 hC hL hH hU rfl K' (ih_cn (ih_F mm hh) 1681) 0 (Nat.zero_add _)⟩
end EY
theorem i_vc_area2 {k : Nat} {u : SX} {v : SY} (I : i_Rel k u v) (hk : k + 4 ≤ 2048) : wpX_area2 (fun r => wpY_area2 (fun r' => r' = r ∧ i_Rel (k + 4) u v) v) u := by
  obtain ⟨n, c, A, B, C, lw, hg, cx, cy, li, hu, mm, hh, hn, hR, hX, hY, rfl, rfl⟩ := I
  have R : i_Rel (k + 4) (nI n, nI c, A, B, C, lw, hg, cx, cy) (nI n, nI (ih_cn (ih_F mm hh) 1681), nI c, A, B, C, li, hu) := ih_rel hn hR hX hY
  have hC := ih_QC (ih_XQ hX)
  have c82 := hX.2.1
  by_cases c0 : c = 0
  · have q1 : nI c ≤ 0 := nI_le (b := 0) (by omega) (by omega)
    have q2 : nI c ≤ 1 + 1 := nI_le (b := 2) (by omega) (by omega)
    exact ⟨1, br_t q1 ⟨1, br_t q2 ⟨rfl, R⟩⟩⟩
  · refine ⟨c - 1 + 1 + 1, ih_xar4 (by omega) ?_ (c - 1) 0 (by omega)⟩
    by_cases c1 : c = 1
    · have q2 : nI c ≤ 1 + 1 := nI_le (b := 2) (by omega) (by omega)
      refine ⟨1, br_t q2 ⟨?_, R⟩⟩
      rw [c1]
      show (0 : Int32) = 0 + (cx 0 * cy 0 - cx 0 * cy 0)
      grind
    · have i2 := ih_yar4 (post := fun r' => r' = ih_sh cx cy (c - 1) + (cx (c - 1) * cy 0 - cx 0 * cy (c - 1)) ∧ i_Rel (k + 4) (nI n, nI c, A, B, C, lw, hg, cx, cy) (nI n, nI (ih_cn (ih_F mm hh) 1681), nI c, A, B, C, li, hu)) (nn := nI n) (ll := nI (ih_cn (ih_F mm hh) 1681)) (A := A) (B := B) (C := C) (li := li) hC hX.2 hY.2 ⟨(ih_shE _ _ _ _ _).symm, R⟩ (c - 2) 1 (by omega) (by omega)
      rw [ih_sh1] at i2
      exact ⟨c - 2 + 1, i2⟩
theorem i_vc_border {k : Nat} {u : SX} {v : SY} (I : i_Rel k u v) (hk : k + 4 ≤ 2048) : wpX_border (fun r => wpY_border (fun r' => r' = r ∧ i_Rel (k + 4) u v) v) u := by
  obtain ⟨n, c, A, B, C, lw, hg, cx, cy, li, hu, mm, hh, hn, hR, hX, hY, rfl, rfl⟩ := I
  have R : i_Rel (k + 4) (nI n, nI c, A, B, C, lw, hg, cx, cy) (nI n, nI (ih_cn (ih_F mm hh) 1681), nI c, A, B, C, li, hu) := ih_rel hn hR hX hY
  exact ⟨42, ih_xb4 (ih_XQ hX) hX.2 (ih_ybd (ih_QC (ih_XQ hX)) hY.1 hX.2 hY.2 ⟨rfl, R⟩) 41 0 (by omega)⟩
end
section
def ih_vc (P Q : Int32) (cx cy : Nat → Int32) (i : Nat) : Int32 := P * cx i + Q * cy i
/-- corner i0 is the first of the greatest -/
def ih_Top (P Q : Int32) (cx cy : Nat → Int32) (c i0 : Nat) : Prop :=
  i0 < c ∧ (∀ j, j < c → (ih_vc P Q cx cy j).toInt ≤ (ih_vc P Q cx cy i0).toInt) ∧ ∀ j, j < i0 → (ih_vc P Q cx cy j).toInt < (ih_vc P Q cx cy i0).toInt
section BX
variable {nn : Int32} {A B C lw hg cx cy : Nat → Int32} {c : Nat}
theorem ih_xbc54 {post : Int32 → Prop} {P Q : Int32} (hc : c ≤ 82) (K : ∀ i0, ih_Top P Q cx cy c i0 → post (nI i0)) : ∀ d i i0, i + d = c → ih_Top P Q cx cy i i0 → wX_bestCorner_54 post P Q nn (nI c) A B C lw hg cx cy (d + 1) (nI i0) (ih_vc P Q cx cy i0) (nI i) := by
  intro d
  induction d with
  | zero =>
    intro i i0 hi H
    have ei : i = c := by omega
    rw [ei] at H
    exact br_t (nI_le (by omega) (by omega)) (K i0 H)
  | succ d ih =>
    intro i i0 hi H
    obtain ⟨H1, H2, H3⟩ := H
    have v : vp_in (nI i) 82 := vp_in_nI (by omega) (by omega)
    have e : (nI i).toNatClampNeg = i := nI_clamp (by omega)
    refine br_f (nI_ge (by omega) (by omega)) ⟨v, v, nm_r (e' := ih_vc P Q cx cy i) (by rw [e]; rfl) ?_⟩
    by_cases z : ih_vc P Q cx cy i ≤ ih_vc P Q cx cy i0
    · refine br_t z (nm_r (nI_1 i) (ih (i + 1) i0 (by omega) ⟨by omega, lt_s H2 ?_, H3⟩))
      exact Int32.le_iff_toInt_le.mp z
    · have z' := z
      rw [Int32.le_iff_toInt_le] at z'
      refine br_f z (nm_r (nI_1 i) (ih (i + 1) i (by omega) ⟨by omega, fun j hj => ?_, fun j hj => ?_⟩))
      · by_cases w : j = i
        · rw [w]
          exact Int.le_refl _
        · have := H2 j (by omega)
          omega
      · have := H2 j hj
        omega
theorem ih_xbc {post : Int32 → Prop} {P Q : Int32} (hc : c ≤ 82) (a1 : ¬ P < (-100)) (a2 : ¬ 100 < P) (b1 : ¬ Q < (-100)) (b2 : ¬ 100 < Q) (h0 : c = 0 → post (-3)) (K : ∀ i0, ih_Top P Q cx cy c i0 → post (nI i0)) : wpX_bestCorner post (nn, nI c, A, B, C, lw, hg, cx, cy) P Q := by
  unfold wpX_bestCorner
  dsimp only
  refine ih_xwi a1 a2 ?_
  refine br_f ih_nz1 ?_
  refine ih_xwi b1 b2 ?_
  refine br_f ih_nz1 ?_
  by_cases c0 : c = 0
  · refine br_t ?_ (h0 c0)
    rw [c0]
    rfl
  · refine br_f (nI_ne0 (by omega) (by omega)) (nm_e ⟨c - 1 + 1, ?_⟩)
    exact ih_xbc54 hc K (c - 1) 1 0 (by omega) ⟨by omega, fun j hj => by rw [show j = 0 by omega]; exact Int.le_refl _, fun j hj => absurd hj (Nat.not_lt_zero j)⟩
end BX
section BY
variable {nn hs : Int32} {A B C li hu : Nat → Int32}
theorem ih_yfi {post : Int32 → Prop} {u : SY} {P : Int32} (a1 : ¬ P < (-100)) (a2 : ¬ 100 < P) (h : post 1) : wpY_isFactor post u P := br_f a1 (br_f a2 h)
theorem ih_yfl {post : Int32 → Prop} {u : SY} {P : Int32} (a1 : P < (-100)) (h : post 0) : wpY_isFactor post u P := br_t a1 h
theorem ih_yfg {post : Int32 → Prop} {u : SY} {P : Int32} (a1 : ¬ P < (-100)) (a2 : 100 < P) (h : post 0) : wpY_isFactor post u P := br_f a1 (br_t a2 h)
/-- the greatest value over the list -/
def ih_Mx (P Q : Int32) (li : Nat → Int32) (L : Nat) (m : Int32) : Prop :=
  (∃ k, k < L ∧ m = ih_vl P Q (li k)) ∧ ∀ j, j < L → (ih_vl P Q (li j)).toInt ≤ m.toInt
theorem ih_ybe44 {post : Int32 → Prop} {P Q : Int32} {L : Nat} (hL : L ≤ 1681) (K : ∀ m, ih_Mx P Q li L m → post m) : ∀ d k m, k + d = L → ih_Mx P Q li k m → wY_best_44 post P Q nn (nI L) hs A B C li hu (d + 1) m (nI k) := by
  intro d
  induction d with
  | zero =>
    intro k m hk H
    have ek : k = L := by omega
    rw [ek] at H
    exact br_t (nI_le (by omega) (by omega)) (K m H)
  | succ d ih =>
    intro k m hk H
    obtain ⟨⟨k0, H1, H2⟩, H3⟩ := H
    have v : vp_in (nI k) 1681 := vp_in_nI (by omega) (by omega)
    have e : (nI k).toNatClampNeg = k := nI_clamp (by omega)
    refine br_f (nI_ge (by omega) (by omega)) ⟨v, ?_⟩
    rw [e]
    refine ih_yval ?_
    by_cases z : ih_vl P Q (li k) ≤ m
    · refine br_t z (nm_r (nI_1 k) (ih (k + 1) m (by omega) ⟨⟨k0, by omega, H2⟩, lt_s H3 ?_⟩))
      exact Int32.le_iff_toInt_le.mp z
    · have z' := z
      rw [Int32.le_iff_toInt_le] at z'
      refine br_f z (nm_r (nI_1 k) (ih (k + 1) _ (by omega) ⟨⟨k, by omega, rfl⟩, fun j hj => ?_⟩))
      by_cases w : j = k
      · rw [w]
        exact Int.le_refl _
      · have := H3 j (by omega)
        omega
theorem ih_ybe {post : Int32 → Prop} {P Q : Int32} {L : Nat} (hL : L ≤ 1681) (a1 : ¬ P < (-100)) (a2 : ¬ 100 < P) (b1 : ¬ Q < (-100)) (b2 : ¬ 100 < Q) (h0 : L = 0 → post (-3)) (K : L ≠ 0 → ∀ m, ih_Mx P Q li L m → post m) : wpY_best post (nn, nI L, hs, A, B, C, li, hu) P Q := by
  unfold wpY_best
  dsimp only
  refine ih_yfi a1 a2 ?_
  refine br_f ih_nz1 ?_
  refine ih_yfi b1 b2 ?_
  refine br_f ih_nz1 ?_
  by_cases c0 : L = 0
  · refine br_t ?_ (h0 c0)
    rw [c0]
    rfl
  · refine br_f (nI_ne0 (by omega) (by omega)) ?_
    refine ih_yval ?_
    exact ⟨L - 1 + 1, ih_ybe44 hL (K c0) (L - 1) 1 _ (by omega) ⟨⟨0, by omega, rfl⟩, fun j hj => by rw [show j = 0 by omega]; exact Int.le_refl _⟩⟩
theorem ih_ybc28 {post : Int32 → Prop} {P Q : Int32} {cx cy : Nat → Int32} {c i0 : Nat} {ll : Int32} (hc : c ≤ 82) (hv : ∀ k, k < c → ih_vl P Q (hu k) = ih_vc P Q cx cy k) (H : ih_Top P Q cx cy c i0) (K : post (nI i0)) : ∀ d k, k + d = i0 → wY_bestCorner_28 post P Q (ih_vc P Q cx cy i0) nn ll (nI c) A B C li hu (d + 1) (nI k) := by
  obtain ⟨H1, H2, H3⟩ := H
  intro d
  induction d with
  | zero =>
    intro k hk
    have v : vp_in (nI k) 256 := vp_in_nI (by omega) (by omega)
    have e : (nI k).toNatClampNeg = k := nI_clamp (by omega)
    refine br_f (nI_ge (by omega) (by omega)) ⟨v, ?_⟩
    rw [e]
    refine ih_yval ?_
    rw [hv k (by omega), show k = i0 by omega]
    exact br_t rfl K
  | succ d ih =>
    intro k hk
    have v : vp_in (nI k) 256 := vp_in_nI (by omega) (by omega)
    have e : (nI k).toNatClampNeg = k := nI_clamp (by omega)
    refine br_f (nI_ge (by omega) (by omega)) ⟨v, ?_⟩
    rw [e]
    refine ih_yval ?_
    rw [hv k (by omega)]
    refine br_f (fun w => ?_) (nm_r (nI_1 k) (ih (k + 1) (by omega)))
    have := H3 k (by omega)
    rw [w] at this
    omega
end BY
theorem ih_okP {P : Int32} (a1 : ¬ P < (-100)) (a2 : ¬ 100 < P) : ih_ok P := by
  unfold ih_ok
  rw [Int32.lt_iff_toInt_lt] at a1 a2
  rw [show (-100 : Int32).toInt = -100 by decide] at a1
  rw [show (100 : Int32).toInt = 100 by decide] at a2
  omega
/-- the greatest of the list is the greatest of the corners -/
theorem ih_mxtop {mm hh : Nat → Nat} {li cx cy : Nat → Int32} {c i0 : Nat} {P Q m : Int32} (hC : ih_C mm hh) (hL : ih_LF mm hh li) (hH : ih_HC (ih_S mm hh) c (ih_p cx cy)) (hP : ih_ok P) (hQ : ih_ok Q) (hM : ih_Mx P Q li (ih_cn (ih_F mm hh) 1681) m) (hT : ih_Top P Q cx cy c i0) : m = ih_vc P Q cx cy i0 := by
  have val : ∀ i, i < c → (ih_vc P Q cx cy i).toInt = ih_L (P.toInt, Q.toInt) (ih_p cx cy i) := fun i hi => by
    have s := ih_Sp hC (hH.2.1 i hi)
    exact ih_val hP hQ s.2.2.2.1 s.2.2.2.2
  obtain ⟨⟨k, k1, k2⟩, M2⟩ := hM
  obtain ⟨T1, T2, T3⟩ := hT
  apply Int32.toInt_inj.mp
  have le1 : m.toInt ≤ (ih_vc P Q cx cy i0).toInt := by
    obtain ⟨q, hq, hw⟩ := ih_Lk hC hL k1
    obtain ⟨i, hi, hle⟩ := ih_bst hH (f := (P.toInt, Q.toInt)) hq
    rw [← ih_Wv hw hP hQ, ← val i hi, ← k2] at hle
    have := T2 i hi
    omega
  have le2 : (ih_vc P Q cx cy i0).toInt ≤ m.toInt := by
    obtain ⟨j, hj, hw⟩ := ih_Lq hC hL (hH.2.1 i0 T1)
    have := M2 j hj
    rw [ih_Wv hw hP hQ, ← val i0 T1] at this
    exact this
  omega
theorem ih_m1n : ¬ (0 : Int32) ≤ -1 := by decide
theorem ih_m3n : ¬ (0 : Int32) ≤ -3 := by decide
theorem i_vc_best {k : Nat} {u : SX} {v : SY} (I : i_Rel k u v) (hk : k + 4 ≤ 2048) (v1 : Int32) (v2 : Int32) : wpX_best (fun r => wpY_best (fun r' => r' = r ∧ i_Rel (k + 4) u v) v v1 v2) u v1 v2 := by
  obtain ⟨n, c, A, B, C, lw, hg, cx, cy, li, hu, mm, hh, hn, hR, hX, hY, rfl, rfl⟩ := I
  have R : i_Rel (k + 4) (nI n, nI c, A, B, C, lw, hg, cx, cy) (nI n, nI (ih_cn (ih_F mm hh) 1681), nI c, A, B, C, li, hu) := ih_rel hn hR hX hY
  have hC := ih_QC (ih_XQ hX)
  have c82 := hX.2.1
  have z0 := ih_c0 hC hY.1 hX.2
  unfold wpX_best
  dsimp only
  by_cases a1 : v1 < (-100)
  · unfold wpX_bestCorner
    dsimp only
    refine ih_xwl a1 ?_
    refine br_t rfl (br_f ih_m1n ?_)
    unfold wpY_best
    dsimp only
    refine ih_yfl a1 ?_
    exact br_t rfl ⟨rfl, R⟩
  by_cases a2 : 100 < v1
  · unfold wpX_bestCorner
    dsimp only
    refine ih_xwg a1 a2 ?_
    refine br_t rfl (br_f ih_m1n ?_)
    unfold wpY_best
    dsimp only
    refine ih_yfg a1 a2 ?_
    exact br_t rfl ⟨rfl, R⟩
  by_cases b1 : v2 < (-100)
  · unfold wpX_bestCorner
    dsimp only
    refine ih_xwi a1 a2 ?_
    refine br_f ih_nz1 ?_
    refine ih_xwl b1 ?_
    refine br_t rfl (br_f ih_m1n ?_)
    unfold wpY_best
    dsimp only
    refine ih_yfi a1 a2 ?_
    refine br_f ih_nz1 ?_
    refine ih_yfl b1 ?_
    exact br_t rfl ⟨rfl, R⟩
  by_cases b2 : 100 < v2
  · unfold wpX_bestCorner
    dsimp only
    refine ih_xwi a1 a2 ?_
    refine br_f ih_nz1 ?_
    refine ih_xwg b1 b2 ?_
    refine br_t rfl (br_f ih_m1n ?_)
    unfold wpY_best
    dsimp only
    refine ih_yfi a1 a2 ?_
    refine br_f ih_nz1 ?_
    refine ih_yfg b1 b2 ?_
    exact br_t rfl ⟨rfl, R⟩
  refine ih_xbc c82 a1 a2 b1 b2 (fun c0 => ?_) (fun i0 hT => ?_)
  · refine br_f ih_m3n ?_
    exact ih_ybe (ih_cle _ 1681) a1 a2 b1 b2 (fun _ => ⟨rfl, R⟩) (fun w => absurd (z0.mpr c0) w)
  · have i82 := hT.1
    have v : vp_in (nI i0) 82 := vp_in_nI (by omega) (by omega)
    have e : (nI i0).toNatClampNeg = i0 := nI_clamp (by omega)
    refine br_t (nI_pos' (by omega)) ⟨v, v, ?_⟩
    refine ih_ybe (ih_cle _ 1681) a1 a2 b1 b2 (fun w => ?_) (fun _ m hM => ⟨?_, R⟩)
    · have := z0.mp w
      omega
    · rw [e]
      exact ih_mxtop hC hY.1 hX.2 (ih_okP a1 a2) (ih_okP b1 b2) hM hT
theorem i_vc_bestCorner {k : Nat} {u : SX} {v : SY} (I : i_Rel k u v) (hk : k + 4 ≤ 2048) (v1 : Int32) (v2 : Int32) : wpX_bestCorner (fun r => wpY_bestCorner (fun r' => r' = r ∧ i_Rel (k + 4) u v) v v1 v2) u v1 v2 := by
  obtain ⟨n, c, A, B, C, lw, hg, cx, cy, li, hu, mm, hh, hn, hR, hX, hY, rfl, rfl⟩ := I
  have R : i_Rel (k + 4) (nI n, nI c, A, B, C, lw, hg, cx, cy) (nI n, nI (ih_cn (ih_F mm hh) 1681), nI c, A, B, C, li, hu) := ih_rel hn hR hX hY
  have hC := ih_QC (ih_XQ hX)
  have c82 := hX.2.1
  have z0 := ih_c0 hC hY.1 hX.2
  by_cases a1 : v1 < (-100)
  · unfold wpX_bestCorner
    dsimp only
    refine ih_xwl a1 ?_
    refine br_t rfl ?_
    unfold wpY_bestCorner
    dsimp only
    refine ih_yfl a1 ?_
    exact br_t rfl ⟨rfl, R⟩
  by_cases a2 : 100 < v1
  · unfold wpX_bestCorner
    dsimp only
    refine ih_xwg a1 a2 ?_
    refine br_t rfl ?_
    unfold wpY_bestCorner
    dsimp only
    refine ih_yfg a1 a2 ?_
    exact br_t rfl ⟨rfl, R⟩
  by_cases b1 : v2 < (-100)
  · unfold wpX_bestCorner
    dsimp only
    refine ih_xwi a1 a2 ?_
    refine br_f ih_nz1 ?_
    refine ih_xwl b1 ?_
    refine br_t rfl ?_
    unfold wpY_bestCorner
    dsimp only
    refine ih_yfi a1 a2 ?_
    refine br_f ih_nz1 ?_
    refine ih_yfl b1 ?_
    exact br_t rfl ⟨rfl, R⟩
  by_cases b2 : 100 < v2
  · unfold wpX_bestCorner
    dsimp only
    refine ih_xwi a1 a2 ?_
    refine br_f ih_nz1 ?_
    refine ih_xwg b1 b2 ?_
    refine br_t rfl ?_
    unfold wpY_bestCorner
    dsimp only
    refine ih_yfi a1 a2 ?_
    refine br_f ih_nz1 ?_
    refine ih_yfg b1 b2 ?_
    exact br_t rfl ⟨rfl, R⟩
  refine ih_xbc c82 a1 a2 b1 b2 (fun c0 => ?_) (fun i0 hT => ?_)
  · unfold wpY_bestCorner
    dsimp only
    refine ih_yfi a1 a2 ?_
    refine br_f ih_nz1 ?_
    refine ih_yfi b1 b2 ?_
    refine br_f ih_nz1 ?_
    refine ih_ybe (ih_cle _ 1681) a1 a2 b1 b2 (fun _ => ?_) (fun w => absurd (z0.mpr c0) w)
    have q : nI c ≤ 0 := nI_le (b := 0) (by omega) (by omega)
    exact ⟨1, br_t q ⟨rfl, R⟩⟩
  · have i82 := hT.1
    have hv : ∀ k, k < c → ih_vl v1 v2 (hu k) = ih_vc v1 v2 cx cy k := fun k hk => by
      have s := ih_Sp hC (hX.2.2.1 k hk)
      unfold ih_vl ih_vc
      rw [hY.2 k hk, s.2.1, s.2.2.1]
    unfold wpY_bestCorner
    dsimp only
    refine ih_yfi a1 a2 ?_
    refine br_f ih_nz1 ?_
    refine ih_yfi b1 b2 ?_
    refine br_f ih_nz1 ?_
    refine ih_ybe (ih_cle _ 1681) a1 a2 b1 b2 (fun w => ?_) (fun _ m hM => ?_)
    · have := z0.mp w
      omega
    · rw [ih_mxtop hC hY.1 hX.2 (ih_okP a1 a2) (ih_okP b1 b2) hM hT]
      exact ⟨i0 + 1, ih_ybc28 c82 hv hT ⟨rfl, R⟩ i0 0 (Nat.zero_add i0)⟩
end

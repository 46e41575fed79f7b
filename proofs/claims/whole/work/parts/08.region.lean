def ih_p (cx cy : Nat → Int32) (i : Nat) : ih_V := ((cx i).toInt, (cy i).toInt)
/-- all n conditions hold at (x, y) -/
def ih_K (n : Nat) (A B C : Nat → Int32) (x y : Nat) : Prop := ∀ i, i < n → A i * nI x + B i * nI y ≤ C i
def ih_Rg (n : Nat) (A B : Nat → Int32) : Prop := ∀ i, i < n → (-100 ≤ (A i).toInt ∧ (A i).toInt ≤ 100) ∧ (-100 ≤ (B i).toInt ∧ (B i).toInt ≤ 100)
theorem ih_conv {n : Nat} {A B C : Nat → Int32} {x y1 y2 y3 : Nat} (h : ih_Rg n A B) (hx : x ≤ 40) (h3 : y3 ≤ 40) (h12 : y1 ≤ y2) (h23 : y2 ≤ y3) (k1 : ih_K n A B C x y1) (k3 : ih_K n A B C x y3) : ih_K n A B C x y2 := by
  intro i hi
  have a := k1 i hi
  have b := k3 i hi
  obtain ⟨rA, rB⟩ := h i hi
  rw [Int32.le_iff_toInt_le, ih_val rA rB (ih_gn hx) (ih_gn (by omega))] at a
  rw [Int32.le_iff_toInt_le, ih_val rA rB (ih_gn hx) (ih_gn (by omega))] at b
  rw [Int32.le_iff_toInt_le, ih_val rA rB (ih_gn hx) (ih_gn (by omega))]
  simp only [ih_L] at a b ⊢
  rw [nI_toInt (n := y1) (by omega)] at a
  rw [nI_toInt (n := y3) (by omega)] at b
  rw [nI_toInt (n := y2) (by omega)]
  rcases Int.le_total 0 (B i).toInt with z | z
  · have := Int.mul_nonneg z (show 0 ≤ (y3 : Int) - (y2 : Int) by omega)
    rw [Int.mul_sub] at this
    omega
  · have := Int.mul_nonneg (show 0 ≤ -(B i).toInt by omega) (show 0 ≤ (y2 : Int) - (y1 : Int) by omega)
    rw [Int.mul_sub, Int.neg_mul, Int.neg_mul] at this
    omega
/-- a measured column -/
def ih_Col (n : Nat) (A B C : Nat → Int32) (x : Nat) (lo hi : Int32) (m h : Nat) : Prop :=
  lo = nI m ∧ hi = nI h + (-1) ∧ m ≤ h ∧ h ≤ 41 ∧ ∀ y, y ≤ 40 → (ih_K n A B C x y ↔ m ≤ y ∧ y < h)
/-- a column measured up to y -/
def ih_Ms (n : Nat) (A B C : Nat → Int32) (x y m h : Nat) : Prop :=
  (∀ i, i < y → ih_K n A B C x i → m ≤ i ∧ i < h) ∧ ((m = 0 ∧ h = 0) ∨ (m < h ∧ h ≤ y ∧ ih_K n A B C x m ∧ ih_K n A B C x (h - 1)))
theorem ih_Ms0 {n : Nat} {A B C : Nat → Int32} {x : Nat} : ih_Ms n A B C x 0 0 0 := ⟨fun i h => absurd h (Nat.not_lt_zero i), Or.inl ⟨rfl, rfl⟩⟩
theorem ih_MsN {n : Nat} {A B C : Nat → Int32} {x y m h : Nat} (H : ih_Ms n A B C x y m h) (hk : ¬ ih_K n A B C x y) : ih_Ms n A B C x (y + 1) m h := by
  refine ⟨fun i hi ki => ?_, ?_⟩
  · by_cases e : i = y
    · rw [e] at ki
      exact absurd ki hk
    · exact H.1 i (by omega) ki
  · rcases H.2 with z | ⟨z1, z2, z3⟩
    · exact Or.inl z
    · exact Or.inr ⟨z1, by omega, z3⟩
theorem ih_MsA {n : Nat} {A B C : Nat → Int32} {x y m : Nat} (H : ih_Ms n A B C x y m 0) (hk : ih_K n A B C x y) : ih_Ms n A B C x (y + 1) y (y + 1) := by
  refine ⟨fun i hi ki => ?_, Or.inr ⟨by omega, by omega, hk, by rw [show y + 1 - 1 = y by omega]; exact hk⟩⟩
  by_cases e : i = y
  · omega
  · have := H.1 i (by omega) ki
    omega
theorem ih_MsB {n : Nat} {A B C : Nat → Int32} {x y m h : Nat} (H : ih_Ms n A B C x y m h) (h0 : h ≠ 0) (hk : ih_K n A B C x y) : ih_Ms n A B C x (y + 1) m (y + 1) := by
  rcases H.2 with z | ⟨z1, z2, z3, z4⟩
  · omega
  · refine ⟨fun i hi ki => ?_, Or.inr ⟨by omega, by omega, z3, by rw [show y + 1 - 1 = y by omega]; exact hk⟩⟩
    by_cases e : i = y
    · omega
    · have := H.1 i (by omega) ki
      omega
theorem ih_MsE {n : Nat} {A B C : Nat → Int32} {x m h : Nat} (hR : ih_Rg n A B) (hx : x ≤ 40) (H : ih_Ms n A B C x 41 m h) : ih_Col n A B C x (nI m) (nI h + (-1)) m h := by
  refine ⟨rfl, rfl, ?_, ?_, fun y hy => ⟨fun k => H.1 y (by omega) k, fun k => ?_⟩⟩
  · rcases H.2 with z | ⟨z1, z2, z3, z4⟩ <;> omega
  · rcases H.2 with z | ⟨z1, z2, z3, z4⟩ <;> omega
  · rcases H.2 with z | ⟨z1, z2, z3, z4⟩
    · omega
    · exact ih_conv hR hx (by omega) k.1 (by omega) z3 z4
theorem ih_hneg {h : Nat} (hh : h ≤ 41) : nI h + (-1) < 0 ↔ h = 0 := by
  cases h with
  | zero =>
    refine ⟨fun _ => rfl, fun _ => ?_⟩
    rw [nI_0]
    decide
  | succ h =>
    rw [pk_m1]
    refine ⟨fun z => absurd z (nI_pos (by omega)), fun z => by omega⟩
theorem ih_ht {h : Nat} (hh : h ≤ 41) : (nI h + (-1)).toInt = (h : Int) - 1 := by
  cases h with
  | zero =>
    rw [nI_0]
    decide
  | succ h =>
    rw [pk_m1, nI_toInt (by omega)]
    omega
/-- what X holds behind a refresh -/
def ih_XF (n : Nat) (A B C lo hi cx cy : Nat → Int32) (c : Nat) (mm hh : Nat → Nat) : Prop :=
  (∀ x, x ≤ 40 → ih_Col n A B C x (lo x) (hi x) (mm x) (hh x)) ∧ ih_HC (ih_S mm hh) c (ih_p cx cy)
def ih_F (mm hh : Nat → Nat) (i : Nat) : Prop := mm (i / 41) ≤ i % 41 ∧ i % 41 < hh (i / 41)
theorem ih_Fi {mm hh : Nat → Nat} {x y : Nat} (hy : y < 41) : ih_F mm hh (41 * x + y) ↔ mm x ≤ y ∧ y < hh x := by
  unfold ih_F
  rw [show (41 * x + y) / 41 = x by omega, show (41 * x + y) % 41 = y by omega]
/-- the list of the points -/
def ih_LF (mm hh : Nat → Nat) (li : Nat → Int32) : Prop := ∀ i, i < 1681 → ih_F mm hh i → li (ih_cn (ih_F mm hh) i) = nI (i / 41 + 64 * (i % 41))
def ih_YF (mm hh : Nat → Nat) (c : Nat) (cx cy li hu : Nat → Int32) : Prop :=
  ih_LF mm hh li ∧ ∀ k, k < c → hu k = cx k + 64 * cy k
/-- w is the packed point q -/
def ih_W (q : ih_V) (w : Int32) : Prop := ∃ x y : Nat, x ≤ 40 ∧ y ≤ 40 ∧ q = ((x : Int), (y : Int)) ∧ w = nI (x + 64 * y)
def ih_tr (a b c : Int32) : Int32 := ((b &&& 63) - (a &&& 63)) * ((c >>> ((6 : Int32) &&& 31)) - (a >>> ((6 : Int32) &&& 31))) - ((b >>> ((6 : Int32) &&& 31)) - (a >>> ((6 : Int32) &&& 31))) * ((c &&& 63) - (a &&& 63))
def ih_ds (a b : Int32) : Int32 := ((b &&& 63) - (a &&& 63)) * ((b &&& 63) - (a &&& 63)) + ((b >>> ((6 : Int32) &&& 31)) - (a >>> ((6 : Int32) &&& 31))) * ((b >>> ((6 : Int32) &&& 31)) - (a >>> ((6 : Int32) &&& 31)))
theorem ih_Wt {a b c : ih_V} {wa wb wc : Int32} (ha : ih_W a wa) (hb : ih_W b wb) (hc : ih_W c wc) : (ih_tr wa wb wc).toInt = ih_T a b c := by
  obtain ⟨ax, ay, a1, a2, rfl, rfl⟩ := ha
  obtain ⟨bx, b', b1, b2, rfl, rfl⟩ := hb
  obtain ⟨cx, cy, c1, c2, rfl, rfl⟩ := hc
  unfold ih_tr
  rw [ih_px a1 a2, ih_px b1 b2, ih_px c1 c2, ih_py a1 a2, ih_py b1 b2, ih_py c1 c2, ih_turn (ih_gn a1) (ih_gn a2) (ih_gn b1) (ih_gn b2) (ih_gn c1) (ih_gn c2)]
  rw [nI_toInt (n := ax) (by omega), nI_toInt (n := ay) (by omega), nI_toInt (n := bx) (by omega), nI_toInt (n := b') (by omega), nI_toInt (n := cx) (by omega), nI_toInt (n := cy) (by omega)]
theorem ih_Wd {a b : ih_V} {wa wb : Int32} (ha : ih_W a wa) (hb : ih_W b wb) : (ih_ds wa wb).toInt = ih_D a b := by
  obtain ⟨ax, ay, a1, a2, rfl, rfl⟩ := ha
  obtain ⟨bx, b', b1, b2, rfl, rfl⟩ := hb
  unfold ih_ds
  rw [ih_px a1 a2, ih_px b1 b2, ih_py a1 a2, ih_py b1 b2, ih_dist (ih_gn a1) (ih_gn a2) (ih_gn b1) (ih_gn b2)]
  rw [nI_toInt (n := ax) (by omega), nI_toInt (n := ay) (by omega), nI_toInt (n := bx) (by omega), nI_toInt (n := b') (by omega)]
theorem ih_We {a b : ih_V} {wa wb : Int32} (ha : ih_W a wa) (hb : ih_W b wb) : wa = wb ↔ a = b := by
  obtain ⟨ax, ay, a1, a2, rfl, rfl⟩ := ha
  obtain ⟨bx, b', b1, b2, rfl, rfl⟩ := hb
  rw [ih_pj a1 a2 b1 b2]
  constructor
  · rintro ⟨h1, h2⟩
    rw [h1, h2]
  · intro h
    have t1 : (ax : Int) = (bx : Int) := congrArg Prod.fst h
    have t2 : (ay : Int) = (b' : Int) := congrArg Prod.snd h
    omega
/-- the walk's next: to b, or all is one point -/
def ih_N (S : ih_V → Prop) (a b : ih_V) : Prop := ih_E S a b ∨ (b = a ∧ ∀ q, S q → q = a)
/-- the test of the walk's step -/
def ih_nc (wa be w : Int32) : Prop := be = wa ∨ ih_tr wa be w < 0 ∨ (ih_tr wa be w = 0 ∧ ih_ds wa be < ih_ds wa w)
theorem ih_nxt {S : ih_V → Prop} {a b q q' : ih_V} {wa be w : Int32} (hN : ih_N S a b) (ha : ih_W a wa) (hq : q = a ∨ S q) (hw : ih_W q be) (hq' : S q') (hw' : ih_W q' w) : (ih_nc wa be w → q = b → q' = b) ∧ (¬ ih_nc wa be w → q' = b → q = b) := by
  rcases hN with hE | ⟨h1, h2⟩
  · unfold ih_nc
    rw [ih_We hw ha, ih_lt0, ih_eq0, Int32.lt_iff_toInt_lt, ih_Wt ha hw hw', ih_Wd ha hw, ih_Wd ha hw']
    constructor
    · intro h e
      rw [e] at h
      have k := ih_keep hE hq'
      rcases h with h | h | ⟨h3, h4⟩
      · exact absurd h.symm (ih_Ene hE)
      · exact absurd h k.1
      · have := k.2 h3
        omega
    · intro h e
      apply Classical.byContradiction
      intro hn
      rcases hq with z | z
      · exact h (Or.inl z)
      · rw [e] at h
        exact h (Or.inr (ih_take hE z hn))
  · refine ⟨fun _ _ => ?_, fun _ _ => ?_⟩
    · rw [h1]
      exact h2 q' hq'
    · rw [h1]
      rcases hq with z | z
      · exact z
      · exact h2 q z
/-- the corner behind corner k -/
def ih_af (c k : Nat) : Nat := if k + 1 < c then k + 1 else 0
theorem ih_HN {S : ih_V → Prop} {c : Nat} {p : Nat → ih_V} (h : ih_HC S c p) {k : Nat} (hk : k < c) : ih_N S (p k) (p (ih_af c k)) := by
  obtain ⟨h1, h2, h3, h4, h5, h6, h7⟩ := h
  unfold ih_af
  by_cases c2 : 2 ≤ c
  · obtain ⟨e1, e2⟩ := h5 c2
    by_cases z : k + 1 < c
    · rw [if_pos z]
      exact Or.inl (e1 k z)
    · rw [if_neg z, show k = c - 1 by omega]
      exact Or.inl e2
  · rw [if_neg (by omega), show k = 0 by omega]
    exact Or.inr ⟨rfl, h4 (by omega)⟩
theorem ih_SW {mm hh : Nat → Nat} (hC : ih_C mm hh) {q : ih_V} (h : ih_S mm hh q) : ∃ w, ih_W q w := by
  obtain ⟨x, y, hx, h1, h2, e⟩ := h
  have := hC x hx
  exact ⟨_, x, y, hx, by omega, e, rfl⟩
/-- the list's cells are the points -/
theorem ih_Lk {mm hh : Nat → Nat} {li : Nat → Int32} (hC : ih_C mm hh) (hL : ih_LF mm hh li) {k : Nat} (hk : k < ih_cn (ih_F mm hh) 1681) : ∃ q, ih_S mm hh q ∧ ih_W q (li k) := by
  obtain ⟨i, h1, h2, h3⟩ := ih_cex 1681 hk
  have := hC (i / 41) (by omega)
  refine ⟨(((i / 41 : Nat) : Int), ((i % 41 : Nat) : Int)), ⟨i / 41, i % 41, by omega, h2.1, h2.2, rfl⟩, ⟨i / 41, i % 41, by omega, by omega, rfl, ?_⟩⟩
  rw [← h3]
  exact hL i h1 h2
theorem ih_Lq {mm hh : Nat → Nat} {li : Nat → Int32} (hC : ih_C mm hh) (hL : ih_LF mm hh li) {q : ih_V} (hq : ih_S mm hh q) : ∃ k, k < ih_cn (ih_F mm hh) 1681 ∧ ih_W q (li k) := by
  obtain ⟨x, y, hx, h1, h2, e⟩ := hq
  have := hC x hx
  have hF : ih_F mm hh (41 * x + y) := (ih_Fi (by omega)).mpr ⟨h1, h2⟩
  refine ⟨ih_cn (ih_F mm hh) (41 * x + y), ih_clt hF (by omega), x, y, hx, by omega, e, ?_⟩
  rw [hL _ (by omega) hF, show (41 * x + y) / 41 = x by omega, show (41 * x + y) % 41 = y by omega]
/-- the list begins with corner 0 -/
theorem ih_L0 {mm hh : Nat → Nat} {li : Nat → Int32} {c : Nat} {p : Nat → ih_V} (hC : ih_C mm hh) (hL : ih_LF mm hh li) (hH : ih_HC (ih_S mm hh) c p) (hc : 0 < c) : ih_W (p 0) (li 0) ∧ 0 < ih_cn (ih_F mm hh) 1681 := by
  obtain ⟨x, y, hx, h1, h2, e⟩ := hH.2.1 0 hc
  have fi := hH.2.2.2.2.2.2
  have := hC x hx
  have hF : ih_F mm hh (41 * x + y) := (ih_Fi (by omega)).mpr ⟨h1, h2⟩
  have z : ih_cn (ih_F mm hh) (41 * x + y) = 0 := by
    have := ih_cno (P := ih_F mm hh) 0 (41 * x + y) (fun i _ hi hFi => by
      have q := fi (((i / 41 : Nat) : Int), ((i % 41 : Nat) : Int)) hc ⟨i / 41, i % 41, by omega, hFi.1, hFi.2, rfl⟩
      rw [e] at q
      dsimp only at q
      omega)
    rw [Nat.zero_add] at this
    exact this
  have lt := ih_clt hF (show 41 * x + y < 1681 by omega)
  have q := hL _ (by omega) hF
  rw [z] at q lt
  refine ⟨⟨x, y, hx, by omega, e, ?_⟩, lt⟩
  rw [q, show (41 * x + y) / 41 = x by omega, show (41 * x + y) % 41 = y by omega]
theorem ih_c0 {mm hh : Nat → Nat} {li : Nat → Int32} {c : Nat} {p : Nat → ih_V} (hC : ih_C mm hh) (hL : ih_LF mm hh li) (hH : ih_HC (ih_S mm hh) c p) : ih_cn (ih_F mm hh) 1681 = 0 ↔ c = 0 := by
  constructor
  · intro z
    apply Classical.byContradiction
    intro n
    have := (ih_L0 hC hL hH (by omega)).2
    omega
  · intro z
    apply Classical.byContradiction
    intro n
    obtain ⟨q, hq, _⟩ := ih_Lk hC hL (show 0 < ih_cn (ih_F mm hh) 1681 by omega)
    exact hH.2.2.1 z q hq

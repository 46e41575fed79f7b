def ih_vc (P Q : Int32) (cx cy : Nat → Int32) (i : Nat) : Int32 := P * cx i + Q * cy i
/-- corner i0 is the first of the greatest -/
def ih_Top (P Q : Int32) (cx cy : Nat → Int32) (c i0 : Nat) : Prop :=
  i0 < c ∧ (∀ j, j < c → (ih_vc P Q cx cy j).toInt ≤ (ih_vc P Q cx cy i0).toInt) ∧ ∀ j, j < i0 → (ih_vc P Q cx cy j).toInt < (ih_vc P Q cx cy i0).toInt
section BX
variable {nn : Int32} {A B C lw hg cx cy : Nat → Int32} {c : Nat}
theorem ih_xbc54 {post : Int32 → Prop} {P Q : Int32} (hc : c ≤ 82) (K : ∀ i0, ih_Top P Q cx cy c i0 → post (nI i0)) : ∀ d i i0, i + d = c → ih_Top P Q cx cy i i0 → wX_bestCorner_54 post P Q nn (nI c) A B C lw hg cx cy (d + 1) (nI i0) (ih_vc P Q cx cy i0) (nI i) := by
  intro d
  induction d with
  | zero =>
    intro i i0 hi H
    have ei : i = c := by omega
    rw [ei] at H
    exact br_t (nI_le (by omega) (by omega)) (K i0 H)
  | succ d ih =>
    intro i i0 hi H
    obtain ⟨H1, H2, H3⟩ := H
    have v : vp_in (nI i) 82 := vp_in_nI (by omega) (by omega)
    have e : (nI i).toNatClampNeg = i := nI_clamp (by omega)
    refine br_f (nI_ge (by omega) (by omega)) ⟨v, v, nm_r (e' := ih_vc P Q cx cy i) (by rw [e]; rfl) ?_⟩
    by_cases z : ih_vc P Q cx cy i ≤ ih_vc P Q cx cy i0
    · refine br_t z (nm_r (nI_1 i) (ih (i + 1) i0 (by omega) ⟨by omega, lt_s H2 ?_, H3⟩))
      exact Int32.le_iff_toInt_le.mp z
    · have z' := z
      rw [Int32.le_iff_toInt_le] at z'
      refine br_f z (nm_r (nI_1 i) (ih (i + 1) i (by omega) ⟨by omega, fun j hj => ?_, fun j hj => ?_⟩))
      · by_cases w : j = i
        · rw [w]
          exact Int.le_refl _
        · have := H2 j (by omega)
          omega
      · have := H2 j hj
        omega
theorem ih_xbc {post : Int32 → Prop} {P Q : Int32} (hc : c ≤ 82) (a1 : ¬ P < (-100)) (a2 : ¬ 100 < P) (b1 : ¬ Q < (-100)) (b2 : ¬ 100 < Q) (h0 : c = 0 → post (-3)) (K : ∀ i0, ih_Top P Q cx cy c i0 → post (nI i0)) : wpX_bestCorner post (nn, nI c, A, B, C, lw, hg, cx, cy) P Q := by
  unfold wpX_bestCorner
  dsimp only
  refine ih_xwi a1 a2 ?_
  refine br_f ih_nz1 ?_
  refine ih_xwi b1 b2 ?_
  refine br_f ih_nz1 ?_
  by_cases c0 : c = 0
  · refine br_t ?_ (h0 c0)
    rw [c0]
    rfl
  · refine br_f (nI_ne0 (by omega) (by omega)) (nm_e ⟨c - 1 + 1, ?_⟩)
    exact ih_xbc54 hc K (c - 1) 1 0 (by omega) ⟨by omega, fun j hj => by rw [show j = 0 by omega]; exact Int.le_refl _, fun j hj => absurd hj (Nat.not_lt_zero j)⟩
end BX
section BY
variable {nn hs : Int32} {A B C li hu : Nat → Int32}
theorem ih_yfi {post : Int32 → Prop} {u : SY} {P : Int32} (a1 : ¬ P < (-100)) (a2 : ¬ 100 < P) (h : post 1) : wpY_isFactor post u P := br_f a1 (br_f a2 h)
theorem ih_yfl {post : Int32 → Prop} {u : SY} {P : Int32} (a1 : P < (-100)) (h : post 0) : wpY_isFactor post u P := br_t a1 h
theorem ih_yfg {post : Int32 → Prop} {u : SY} {P : Int32} (a1 : ¬ P < (-100)) (a2 : 100 < P) (h : post 0) : wpY_isFactor post u P := br_f a1 (br_t a2 h)
/-- the greatest value over the list -/
def ih_Mx (P Q : Int32) (li : Nat → Int32) (L : Nat) (m : Int32) : Prop :=
  (∃ k, k < L ∧ m = ih_vl P Q (li k)) ∧ ∀ j, j < L → (ih_vl P Q (li j)).toInt ≤ m.toInt
theorem ih_ybe44 {post : Int32 → Prop} {P Q : Int32} {L : Nat} (hL : L ≤ 1681) (K : ∀ m, ih_Mx P Q li L m → post m) : ∀ d k m, k + d = L → ih_Mx P Q li k m → wY_best_44 post P Q nn (nI L) hs A B C li hu (d + 1) m (nI k) := by
  intro d
  induction d with
  | zero =>
    intro k m hk H
    have ek : k = L := by omega
    rw [ek] at H
    exact br_t (nI_le (by omega) (by omega)) (K m H)
  | succ d ih =>
    intro k m hk H
    obtain ⟨⟨k0, H1, H2⟩, H3⟩ := H
    have v : vp_in (nI k) 1681 := vp_in_nI (by omega) (by omega)
    have e : (nI k).toNatClampNeg = k := nI_clamp (by omega)
    refine br_f (nI_ge (by omega) (by omega)) ⟨v, ?_⟩
    rw [e]
    refine ih_yval ?_
    by_cases z : ih_vl P Q (li k) ≤ m
    · refine br_t z (nm_r (nI_1 k) (ih (k + 1) m (by omega) ⟨⟨k0, by omega, H2⟩, lt_s H3 ?_⟩))
      exact Int32.le_iff_toInt_le.mp z
    · have z' := z
      rw [Int32.le_iff_toInt_le] at z'
      refine br_f z (nm_r (nI_1 k) (ih (k + 1) _ (by omega) ⟨⟨k, by omega, rfl⟩, fun j hj => ?_⟩))
      by_cases w : j = k
      · rw [w]
        exact Int.le_refl _
      · have := H3 j (by omega)
        omega
theorem ih_ybe {post : Int32 → Prop} {P Q : Int32} {L : Nat} (hL : L ≤ 1681) (a1 : ¬ P < (-100)) (a2 : ¬ 100 < P) (b1 : ¬ Q < (-100)) (b2 : ¬ 100 < Q) (h0 : L = 0 → post (-3)) (K : L ≠ 0 → ∀ m, ih_Mx P Q li L m → post m) : wpY_best post (nn, nI L, hs, A, B, C, li, hu) P Q := by
  unfold wpY_best
  dsimp only
  refine ih_yfi a1 a2 ?_
  refine br_f ih_nz1 ?_
  refine ih_yfi b1 b2 ?_
  refine br_f ih_nz1 ?_
  by_cases c0 : L = 0
  · refine br_t ?_ (h0 c0)
    rw [c0]
    rfl
  · refine br_f (nI_ne0 (by omega) (by omega)) ?_
    refine ih_yval ?_
    exact ⟨L - 1 + 1, ih_ybe44 hL (K c0) (L - 1) 1 _ (by omega) ⟨⟨0, by omega, rfl⟩, fun j hj => by rw [show j = 0 by omega]; exact Int.le_refl _⟩⟩
theorem ih_ybc28 {post : Int32 → Prop} {P Q : Int32} {cx cy : Nat → Int32} {c i0 : Nat} {ll : Int32} (hc : c ≤ 82) (hv : ∀ k, k < c → ih_vl P Q (hu k) = ih_vc P Q cx cy k) (H : ih_Top P Q cx cy c i0) (K : post (nI i0)) : ∀ d k, k + d = i0 → wY_bestCorner_28 post P Q (ih_vc P Q cx cy i0) nn ll (nI c) A B C li hu (d + 1) (nI k) := by
  obtain ⟨H1, H2, H3⟩ := H
  intro d
  induction d with
  | zero =>
    intro k hk
    have v : vp_in (nI k) 256 := vp_in_nI (by omega) (by omega)
    have e : (nI k).toNatClampNeg = k := nI_clamp (by omega)
    refine br_f (nI_ge (by omega) (by omega)) ⟨v, ?_⟩
    rw [e]
    refine ih_yval ?_
    rw [hv k (by omega), show k = i0 by omega]
    exact br_t rfl K
  | succ d ih =>
    intro k hk
    have v : vp_in (nI k) 256 := vp_in_nI (by omega) (by omega)
    have e : (nI k).toNatClampNeg = k := nI_clamp (by omega)
    refine br_f (nI_ge (by omega) (by omega)) ⟨v, ?_⟩
    rw [e]
    refine ih_yval ?_
    rw [hv k (by omega)]
    refine br_f (fun w => ?_) (nm_r (nI_1 k) (ih (k + 1) (by omega)))
    have := H3 k (by omega)
    rw [w] at this
    omega
end BY
theorem ih_okP {P : Int32} (a1 : ¬ P < (-100)) (a2 : ¬ 100 < P) : ih_ok P := by
  unfold ih_ok
  rw [Int32.lt_iff_toInt_lt] at a1 a2
  rw [show (-100 : Int32).toInt = -100 by decide] at a1
  rw [show (100 : Int32).toInt = 100 by decide] at a2
  omega
/-- the greatest of the list is the greatest of the corners -/
theorem ih_mxtop {mm hh : Nat → Nat} {li cx cy : Nat → Int32} {c i0 : Nat} {P Q m : Int32} (hC : ih_C mm hh) (hL : ih_LF mm hh li) (hH : ih_HC (ih_S mm hh) c (ih_p cx cy)) (hP : ih_ok P) (hQ : ih_ok Q) (hM : ih_Mx P Q li (ih_cn (ih_F mm hh) 1681) m) (hT : ih_Top P Q cx cy c i0) : m = ih_vc P Q cx cy i0 := by
  have val : ∀ i, i < c → (ih_vc P Q cx cy i).toInt = ih_L (P.toInt, Q.toInt) (ih_p cx cy i) := fun i hi => by
    have s := ih_Sp hC (hH.2.1 i hi)
    exact ih_val hP hQ s.2.2.2.1 s.2.2.2.2
  obtain ⟨⟨k, k1, k2⟩, M2⟩ := hM
  obtain ⟨T1, T2, T3⟩ := hT
  apply Int32.toInt_inj.mp
  have le1 : m.toInt ≤ (ih_vc P Q cx cy i0).toInt := by
    obtain ⟨q, hq, hw⟩ := ih_Lk hC hL k1
    obtain ⟨i, hi, hle⟩ := ih_bst hH (f := (P.toInt, Q.toInt)) hq
    rw [← ih_Wv hw hP hQ, ← val i hi, ← k2] at hle
    have := T2 i hi
    omega
  have le2 : (ih_vc P Q cx cy i0).toInt ≤ m.toInt := by
    obtain ⟨j, hj, hw⟩ := ih_Lq hC hL (hH.2.1 i0 T1)
    have := M2 j hj
    rw [ih_Wv hw hP hQ, ← val i0 T1] at this
    exact this
  omega
theorem ih_m1n : ¬ (0 : Int32) ≤ -1 := by decide
theorem ih_m3n : ¬ (0 : Int32) ≤ -3 := by decide
theorem i_vc_best {k : Nat} {u : SX} {v : SY} (I : i_Rel k u v) (hk : k + 4 ≤ 2048) (v1 : Int32) (v2 : Int32) : wpX_best (fun r => wpY_best (fun r' => r' = r ∧ i_Rel (k + 4) u v) v v1 v2) u v1 v2 := by
  obtain ⟨n, c, A, B, C, lw, hg, cx, cy, li, hu, mm, hh, hn, hR, hX, hY, rfl, rfl⟩ := I
  have R : i_Rel (k + 4) (nI n, nI c, A, B, C, lw, hg, cx, cy) (nI n, nI (ih_cn (ih_F mm hh) 1681), nI c, A, B, C, li, hu) := ih_rel hn hR hX hY
  have hC := ih_QC (ih_XQ hX)
  have c82 := hX.2.1
  have z0 := ih_c0 hC hY.1 hX.2
  unfold wpX_best
  dsimp only
  by_cases a1 : v1 < (-100)
  · unfold wpX_bestCorner
    dsimp only
    refine ih_xwl a1 ?_
    refine br_t rfl (br_f ih_m1n ?_)
    unfold wpY_best
    dsimp only
    refine ih_yfl a1 ?_
    exact br_t rfl ⟨rfl, R⟩
  by_cases a2 : 100 < v1
  · unfold wpX_bestCorner
    dsimp only
    refine ih_xwg a1 a2 ?_
    refine br_t rfl (br_f ih_m1n ?_)
    unfold wpY_best
    dsimp only
    refine ih_yfg a1 a2 ?_
    exact br_t rfl ⟨rfl, R⟩
  by_cases b1 : v2 < (-100)
  · unfold wpX_bestCorner
    dsimp only
    refine ih_xwi a1 a2 ?_
    refine br_f ih_nz1 ?_
    refine ih_xwl b1 ?_
    refine br_t rfl (br_f ih_m1n ?_)
    unfold wpY_best
    dsimp only
    refine ih_yfi a1 a2 ?_
    refine br_f ih_nz1 ?_
    refine ih_yfl b1 ?_
    exact br_t rfl ⟨rfl, R⟩
  by_cases b2 : 100 < v2
  · unfold wpX_bestCorner
    dsimp only
    refine ih_xwi a1 a2 ?_
    refine br_f ih_nz1 ?_
    refine ih_xwg b1 b2 ?_
    refine br_t rfl (br_f ih_m1n ?_)
    unfold wpY_best
    dsimp only
    refine ih_yfi a1 a2 ?_
    refine br_f ih_nz1 ?_
    refine ih_yfg b1 b2 ?_
    exact br_t rfl ⟨rfl, R⟩
  refine ih_xbc c82 a1 a2 b1 b2 (fun c0 => ?_) (fun i0 hT => ?_)
  · refine br_f ih_m3n ?_
    exact ih_ybe (ih_cle _ 1681) a1 a2 b1 b2 (fun _ => ⟨rfl, R⟩) (fun w => absurd (z0.mpr c0) w)
  · have i82 := hT.1
    have v : vp_in (nI i0) 82 := vp_in_nI (by omega) (by omega)
    have e : (nI i0).toNatClampNeg = i0 := nI_clamp (by omega)
    refine br_t (nI_pos' (by omega)) ⟨v, v, ?_⟩
    refine ih_ybe (ih_cle _ 1681) a1 a2 b1 b2 (fun w => ?_) (fun _ m hM => ⟨?_, R⟩)
    · have := z0.mp w
      omega
    · rw [e]
      exact ih_mxtop hC hY.1 hX.2 (ih_okP a1 a2) (ih_okP b1 b2) hM hT
theorem i_vc_bestCorner {k : Nat} {u : SX} {v : SY} (I : i_Rel k u v) (hk : k + 4 ≤ 2048) (v1 : Int32) (v2 : Int32) : wpX_bestCorner (fun r => wpY_bestCorner (fun r' => r' = r ∧ i_Rel (k + 4) u v) v v1 v2) u v1 v2 := by
  obtain ⟨n, c, A, B, C, lw, hg, cx, cy, li, hu, mm, hh, hn, hR, hX, hY, rfl, rfl⟩ := I
  have R : i_Rel (k + 4) (nI n, nI c, A, B, C, lw, hg, cx, cy) (nI n, nI (ih_cn (ih_F mm hh) 1681), nI c, A, B, C, li, hu) := ih_rel hn hR hX hY
  have hC := ih_QC (ih_XQ hX)
  have c82 := hX.2.1
  have z0 := ih_c0 hC hY.1 hX.2
  by_cases a1 : v1 < (-100)
  · unfold wpX_bestCorner
    dsimp only
    refine ih_xwl a1 ?_
    refine br_t rfl ?_
    unfold wpY_bestCorner
    dsimp only
    refine ih_yfl a1 ?_
    exact br_t rfl ⟨rfl, R⟩
  by_cases a2 : 100 < v1
  · unfold wpX_bestCorner
    dsimp only
    refine ih_xwg a1 a2 ?_
    refine br_t rfl ?_
    unfold wpY_bestCorner
    dsimp only
    refine ih_yfg a1 a2 ?_
    exact br_t rfl ⟨rfl, R⟩
  by_cases b1 : v2 < (-100)
  · unfold wpX_bestCorner
    dsimp only
    refine ih_xwi a1 a2 ?_
    refine br_f ih_nz1 ?_
    refine ih_xwl b1 ?_
    refine br_t rfl ?_
    unfold wpY_bestCorner
    dsimp only
    refine ih_yfi a1 a2 ?_
    refine br_f ih_nz1 ?_
    refine ih_yfl b1 ?_
    exact br_t rfl ⟨rfl, R⟩
  by_cases b2 : 100 < v2
  · unfold wpX_bestCorner
    dsimp only
    refine ih_xwi a1 a2 ?_
    refine br_f ih_nz1 ?_
    refine ih_xwg b1 b2 ?_
    refine br_t rfl ?_
    unfold wpY_bestCorner
    dsimp only
    refine ih_yfi a1 a2 ?_
    refine br_f ih_nz1 ?_
    refine ih_yfg b1 b2 ?_
    exact br_t rfl ⟨rfl, R⟩
  refine ih_xbc c82 a1 a2 b1 b2 (fun c0 => ?_) (fun i0 hT => ?_)
  · unfold wpY_bestCorner
    dsimp only
    refine ih_yfi a1 a2 ?_
    refine br_f ih_nz1 ?_
    refine ih_yfi b1 b2 ?_
    refine br_f ih_nz1 ?_
    refine ih_ybe (ih_cle _ 1681) a1 a2 b1 b2 (fun _ => ?_) (fun w => absurd (z0.mpr c0) w)
    have q : nI c ≤ 0 := nI_le (b := 0) (by omega) (by omega)
    exact ⟨1, br_t q ⟨rfl, R⟩⟩
  · have i82 := hT.1
    have hv : ∀ k, k < c → ih_vl v1 v2 (hu k) = ih_vc v1 v2 cx cy k := fun k hk => by
      have s := ih_Sp hC (hX.2.2.1 k hk)
      unfold ih_vl ih_vc
      rw [hY.2 k hk, s.2.1, s.2.2.1]
    unfold wpY_bestCorner
    dsimp only
    refine ih_yfi a1 a2 ?_
    refine br_f ih_nz1 ?_
    refine ih_yfi b1 b2 ?_
    refine br_f ih_nz1 ?_
    refine ih_ybe (ih_cle _ 1681) a1 a2 b1 b2 (fun w => ?_) (fun _ m hM => ?_)
    · have := z0.mp w
      omega
    · rw [ih_mxtop hC hY.1 hX.2 (ih_okP a1 a2) (ih_okP b1 b2) hM hT]
      exact ⟨i0 + 1, ih_ybc28 c82 hv hT ⟨rfl, R⟩ i0 0 (Nat.zero_add i0)⟩

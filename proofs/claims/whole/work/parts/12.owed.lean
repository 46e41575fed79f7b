/-- the same conditions on both sides; X's columns and corners, Y's list and hull -/
def i_Rel (_ : Nat) (u : SX) (v : SY) : Prop :=
  ∃ (n c : Nat) (A B C lw hg cx cy li hu : Nat → Int32) (mm hh : Nat → Nat), n ≤ 8 ∧ ih_Rg n A B ∧ ih_XF n A B C lw hg cx cy c mm hh ∧ ih_YF mm hh c cx cy li hu ∧
    u = (nI n, nI c, A, B, C, lw, hg, cx, cy) ∧ v = (nI n, nI (ih_cn (ih_F mm hh) 1681), nI c, A, B, C, li, hu)
theorem i_up {k : Nat} {u : SX} {v : SY} (h : i_Rel k u v) : i_Rel (k + 4) u v := h
theorem ih_rel {k n c : Nat} {A B C lw hg cx cy li hu : Nat → Int32} {mm hh : Nat → Nat} (hn : n ≤ 8) (hR : ih_Rg n A B) (hX : ih_XF n A B C lw hg cx cy c mm hh) (hY : ih_YF mm hh c cx cy li hu) : i_Rel k (nI n, nI c, A, B, C, lw, hg, cx, cy) (nI n, nI (ih_cn (ih_F mm hh) 1681), nI c, A, B, C, li, hu) :=
  ⟨n, c, A, B, C, lw, hg, cx, cy, li, hu, mm, hh, hn, hR, hX, hY, rfl, rfl⟩
theorem i_vc0 : wpX_init (fun u => wpY_init (fun v => i_Rel 0 u v)) := by
  have hR : ih_Rg 0 (fun _ => 0) (fun _ => 0) := fun i hi => absurd hi (Nat.not_lt_zero i)
  unfold wpX_init
  refine ih_xref (n := 0) (A := fun _ => 0) (B := fun _ => 0) (C := fun _ => 0) (by omega) hR (fun lw hg cx cy c mm hh hX => ?_)
  show wpY_init (fun v => i_Rel 0 (nI 0, nI c, fun _ => 0, fun _ => 0, fun _ => 0, lw, hg, cx, cy) v)
  unfold wpY_init
  exact ih_yref (n := 0) (A := fun _ => 0) (B := fun _ => 0) (C := fun _ => 0) (by omega) hX (fun li hu hY => ih_rel (by omega) hR hX hY)
theorem ih_w9 {a : Int32} (h1 : ¬ a < (-9)) (h2 : ¬ 9 < a) : -100 ≤ a.toInt ∧ a.toInt ≤ 100 := by
  rw [Int32.lt_iff_toInt_lt] at h1 h2
  rw [show (-9 : Int32).toInt = -9 by decide] at h1
  rw [show (9 : Int32).toInt = 9 by decide] at h2
  omega
theorem ih_RgU {n : Nat} {A B : Nat → Int32} {a b : Int32} (h : ih_Rg n A B) (ha : -100 ≤ a.toInt ∧ a.toInt ≤ 100) (hb : -100 ≤ b.toInt ∧ b.toInt ≤ 100) : ih_Rg (n + 1) (upd A n a) (upd B n b) := by
  intro i hi
  by_cases e : i = n
  · rw [e, pk_us, pk_us]
    exact ⟨ha, hb⟩
  · rw [pk_un e, pk_un e]
    exact h i (by omega)
theorem ih_xwi {post : Int32 → Prop} {a m : Int32} (h1 : ¬ a < (-m)) (h2 : ¬ m < a) (h : post 1) : wpX_within post a m := br_f h1 (br_f h2 h)
theorem ih_xwl {post : Int32 → Prop} {a m : Int32} (h1 : a < (-m)) (h : post 0) : wpX_within post a m := br_t h1 h
theorem ih_xwg {post : Int32 → Prop} {a m : Int32} (h1 : ¬ a < (-m)) (h2 : m < a) (h : post 0) : wpX_within post a m := br_f h1 (br_t h2 h)
theorem ih_nz1 : ¬ (1 : Int32) = 0 := by decide
theorem i_vc_condition {k : Nat} {u : SX} {v : SY} (I : i_Rel k u v) (hk : k + 4 ≤ 2048) (v1 : Int32) (v2 : Int32) (v3 : Int32) : wpX_condition (fun r u' => wpY_condition (fun r' v' => r' = r ∧ i_Rel (k + 4) u' v') v v1 v2 v3) u v1 v2 v3 := by
  obtain ⟨n, c, A, B, C, lw, hg, cx, cy, li, hu, mm, hh, hn, hR, hX, hY, rfl, rfl⟩ := I
  unfold wpX_condition
  dsimp only
  have bad : i_Rel (k + 4) (nI n, nI c, A, B, C, lw, hg, cx, cy) (nI n, nI (ih_cn (ih_F mm hh) 1681), nI c, A, B, C, li, hu) := ih_rel hn hR hX hY
  by_cases a1 : v1 < (-9)
  · exact ih_xwl a1 (br_t rfl (br_t a1 (br_t rfl ⟨rfl, bad⟩)))
  by_cases a2 : 9 < v1
  · exact ih_xwg a1 a2 (br_t rfl (br_f a1 (br_t a2 (br_t rfl ⟨rfl, bad⟩))))
  refine ih_xwi a1 a2 (br_f ih_nz1 ?_)
  by_cases b1 : v2 < (-9)
  · exact ih_xwl b1 (br_t rfl (br_f a1 (br_f a2 (br_t b1 (br_t rfl ⟨rfl, bad⟩)))))
  by_cases b2 : 9 < v2
  · exact ih_xwg b1 b2 (br_t rfl (br_f a1 (br_f a2 (br_f b1 (br_t b2 (br_t rfl ⟨rfl, bad⟩))))))
  refine ih_xwi b1 b2 (br_f ih_nz1 ?_)
  by_cases c1 : v3 < (-1000)
  · exact ih_xwl c1 (br_t rfl (br_f a1 (br_f a2 (br_f b1 (br_f b2 (br_t c1 (br_t rfl ⟨rfl, bad⟩)))))))
  by_cases c2 : 1000 < v3
  · exact ih_xwg c1 c2 (br_t rfl (br_f a1 (br_f a2 (br_f b1 (br_f b2 (br_f c1 (br_t c2 (br_t rfl ⟨rfl, bad⟩))))))))
  refine ih_xwi c1 c2 (br_f ih_nz1 ?_)
  have good : ∀ post : Int32 → SX → Prop, (∀ r u', wpY_condition (fun r' v' => r' = r ∧ i_Rel (k + 4) u' v') (nI n, nI (ih_cn (ih_F mm hh) 1681), nI c, A, B, C, li, hu) v1 v2 v3 → post r u') → (¬ (v1 = 0 ∧ v2 = 0)) → wX_condition_40 post v1 v2 v3 (nI n) (nI c) A B C lw hg cx cy := by
    intro post hp hz
    have yy : ∀ post' : Int32 → SY → Prop, wY_condition_60 post' v1 v2 v3 (nI n) (nI (ih_cn (ih_F mm hh) 1681)) (nI c) A B C li hu → wpY_condition post' (nI n, nI (ih_cn (ih_F mm hh) 1681), nI c, A, B, C, li, hu) v1 v2 v3 := by
      intro post' h
      refine br_f a1 (br_f a2 (br_f b1 (br_f b2 (br_f c1 (br_f c2 (br_f ih_nz1 ?_))))))
      by_cases z1 : v1 = 0
      · exact br_t z1 (br_f (fun z2 => hz ⟨z1, z2⟩) h)
      · exact br_f z1 h
    by_cases h8 : n < 8
    · have v : vp_in (nI n) 8 := vp_in_nI h8 (by omega)
      have e : (nI n).toNatClampNeg = n := nI_clamp (by omega)
      have hR' := ih_RgU hR (ih_w9 a1 a2) (ih_w9 b1 b2)
      refine br_t (nI_lt (b := 8) h8 (by omega)) ⟨v, nm_r (e' := upd A n v1) (by rw [e]) ⟨v, nm_r (e' := upd B n v2) (by rw [e]) ⟨v, nm_r (e' := upd C n v3) (by rw [e]) (nm_r (nI_1 n) (ih_xref (by omega) hR' (fun lw' hg' cx' cy' c' mm' hh' hX' => hp _ _ (yy _ ?_))))⟩⟩⟩
      refine br_f (fun z => ?_) ⟨v, nm_r (e' := upd A n v1) (by rw [e]) ⟨v, nm_r (e' := upd B n v2) (by rw [e]) ⟨v, nm_r (e' := upd C n v3) (by rw [e]) (nm_r (nI_1 n) (ih_yref (by omega) hX' (fun li' hu' hY' => ⟨rfl, ih_rel (by omega) hR' hX' hY'⟩)))⟩⟩⟩
      have := (nI_eq (a := n) (b := 8) (by omega) (by omega)).mp z
      omega
    · have e8 : n = 8 := by omega
      refine br_f (nI_nlt (b := 8) (by omega) (by omega)) (hp _ _ (yy _ (br_t ?_ ⟨rfl, bad⟩)))
      rw [e8]
      rfl
  by_cases z1 : v1 = 0
  · refine br_t z1 ?_
    by_cases z2 : v2 = 0
    · exact br_t z2 (br_f a1 (br_f a2 (br_f b1 (br_f b2 (br_f c1 (br_f c2 (br_f ih_nz1 (br_t z1 (br_t z2 ⟨rfl, bad⟩)))))))))
    · exact br_f z2 (good _ (fun r u' h => h) (fun w => z2 w.2))
  · exact br_f z1 (good _ (fun r u' h => h) (fun w => z1 w.1))
theorem i_vc_drop {k : Nat} {u : SX} {v : SY} (I : i_Rel k u v) (hk : k + 4 ≤ 2048) : wpX_drop (fun r u' => wpY_drop (fun r' v' => r' = r ∧ i_Rel (k + 4) u' v') v) u := by
  obtain ⟨n, c, A, B, C, lw, hg, cx, cy, li, hu, mm, hh, hn, hR, hX, hY, rfl, rfl⟩ := I
  by_cases z : n = 0
  · have e0 : nI n = 0 := by rw [z]; rfl
    exact br_t e0 (br_t e0 ⟨rfl, ih_rel hn hR hX hY⟩)
  · have e0 : ¬ nI n = 0 := nI_ne0 (by omega) (by omega)
    have e1 : nI n - 1 = nI (n - 1) := by
      rw [show (1 : Int32) = nI 1 from rfl, pk_sub (by omega)]
    have hR' : ih_Rg (n - 1) A B := fun i hi => hR i (by omega)
    exact br_f e0 (nm_r e1 (ih_xref (by omega) hR' (fun lw' hg' cx' cy' c' mm' hh' hX' => br_f e0 (nm_r e1 (ih_yref (by omega) hX' (fun li' hu' hY' => ⟨rfl, ih_rel (by omega) hR' hX' hY'⟩))))))
theorem i_vc_shift {k : Nat} {u : SX} {v : SY} (I : i_Rel k u v) (hk : k + 4 ≤ 2048) (v1 : Int32) (v2 : Int32) : wpX_shift (fun r u' => wpY_shift (fun r' v' => r' = r ∧ i_Rel (k + 4) u' v') v v1 v2) u v1 v2 := by
  obtain ⟨n, c, A, B, C, lw, hg, cx, cy, li, hu, mm, hh, hn, hR, hX, hY, rfl, rfl⟩ := I
  have bad : i_Rel (k + 4) (nI n, nI c, A, B, C, lw, hg, cx, cy) (nI n, nI (ih_cn (ih_F mm hh) 1681), nI c, A, B, C, li, hu) := ih_rel hn hR hX hY
  by_cases a1 : v1 < 0
  · exact br_t a1 (br_t a1 ⟨rfl, bad⟩)
  by_cases a2 : v1 < nI n
  · refine br_f a1 (br_t a2 ?_)
    by_cases b1 : v2 < (-1000)
    · exact ih_xwl b1 (br_t rfl (br_f a1 (br_t a2 (br_t b1 ⟨rfl, bad⟩))))
    by_cases b2 : 1000 < v2
    · exact ih_xwg b1 b2 (br_t rfl (br_f a1 (br_t a2 (br_f b1 (br_f (Int32.not_le.mpr b2) ⟨rfl, bad⟩)))))
    obtain ⟨i, hi, rfl⟩ := nI_of a1
    rw [nI_ltI hi (by omega)] at a2
    have a2' : nI i < nI n := nI_lt a2 (by omega)
    have v : vp_in (nI i) 8 := vp_in_nI (by omega) (by omega)
    have e : (nI i).toNatClampNeg = i := nI_clamp (by omega)
    refine ih_xwi b1 b2 (br_f ih_nz1 ⟨v, nm_r (e' := C i) (by rw [e]) ⟨v, nm_r (e' := upd C i v2) (by rw [e]) (ih_xref hn hR (fun lw' hg' cx' cy' c' mm' hh' hX' => ?_))⟩⟩)
    exact br_f a1 (br_t a2' (br_f b1 (br_t (Int32.not_lt.mp b2) ⟨v, nm_r (e' := C i) (by rw [e]) ⟨v, nm_r (e' := upd C i v2) (by rw [e]) (ih_yref hn hX' (fun li' hu' hY' => ⟨rfl, ih_rel hn hR hX' hY'⟩))⟩⟩)))
  · exact br_f a1 (br_f a2 (br_f a1 (br_f a2 ⟨rfl, bad⟩)))
section XC
variable {nn cc : Int32} {A B C lw hg cx cy : Nat → Int32} {mm hh : Nat → Nat}
theorem ih_XQ {n c : Nat} (hX : ih_XF n A B C lw hg cx cy c mm hh) : ih_Q mm hh lw hg := fun x hx => ⟨(hX.1 x hx).1, (hX.1 x hx).2.1, (hX.1 x hx).2.2.1, (hX.1 x hx).2.2.2.1⟩
theorem ih_xgr {post : Int32 → Prop} {x : Nat} (hx : x ≤ 40) (h : post 1) : wpX_onGrid post (nI x) := br_f (nI_pos (by omega)) (br_f (nI_nlt (a := 40) hx (by omega)) h)
theorem ih_xcol {post : Int32 → Prop} (hQ : ih_Q mm hh lw hg) {x : Nat} (hx : x ≤ 40) (h : post (nI (hh x - mm x))) : wpX_column post (nn, cc, A, B, C, lw, hg, cx, cy) (nI x) := by
  obtain ⟨q1, q2, q3, q4⟩ := hQ x hx
  have v : vp_in (nI x) 41 := vp_in_nI (by omega) (by omega)
  have e : (nI x).toNatClampNeg = x := nI_clamp (by omega)
  unfold wpX_column
  dsimp only
  refine ih_xgr hx ?_
  refine br_f ih_nz1 ⟨v, v, ?_⟩
  rw [e, q1, q2, show nI (hh x) + (-1) - nI (mm x) + 1 = nI (hh x) - nI (mm x) by grind, pk_sub q3]
  exact h
theorem ih_xpt4 {post : Int32 → Prop} (hQ : ih_Q mm hh lw hg) (K : post (nI (ih_cn (ih_F mm hh) 1681))) : ∀ d x, x + d = 41 → wX_points_4 post nn cc A B C lw hg cx cy (d + 1) (nI (ih_cn (ih_F mm hh) (41 * x))) (nI x) := by
  intro d
  induction d with
  | zero =>
    intro x hx
    have ex : x = 41 := by omega
    rw [ex]
    exact br_t (nI_lt (a := 40) (by omega) (by omega)) K
  | succ d ih =>
    intro x hx
    obtain ⟨q1, q2, q3, q4⟩ := hQ x (by omega)
    have e := ih_ccol (P := ih_F mm hh) (x := x) q3 q4 (fun y hy => ih_Fi hy)
    refine br_f (nI_nlt (a := 40) (by omega) (by omega)) (ih_xcol hQ (by omega) (nm_r (nI_add _ _) (nm_r (nI_1 x) ?_)))
    rw [← e]
    exact ih (x + 1) (by omega)
end XC
theorem i_vc_points {k : Nat} {u : SX} {v : SY} (I : i_Rel k u v) (hk : k + 4 ≤ 2048) : wpX_points (fun r => wpY_points (fun r' => r' = r ∧ i_Rel (k + 4) u v) v) u := by
  obtain ⟨n, c, A, B, C, lw, hg, cx, cy, li, hu, mm, hh, hn, hR, hX, hY, rfl, rfl⟩ := I
  exact ⟨42, ih_xpt4 (ih_XQ hX) ⟨rfl, ih_rel hn hR hX hY⟩ 41 0 (by omega)⟩
theorem i_vc_has {k : Nat} {u : SX} {v : SY} (I : i_Rel k u v) (hk : k + 4 ≤ 2048) (v1 : Int32) (v2 : Int32) : wpX_has (fun r => wpY_has (fun r' => r' = r ∧ i_Rel (k + 4) u v) v v1 v2) u v1 v2 := by
  obtain ⟨n, c, A, B, C, lw, hg, cx, cy, li, hu, mm, hh, hn, hR, hX, hY, rfl, rfl⟩ := I
  have R : i_Rel (k + 4) (nI n, nI c, A, B, C, lw, hg, cx, cy) (nI n, nI (ih_cn (ih_F mm hh) 1681), nI c, A, B, C, li, hu) := ih_rel hn hR hX hY
  by_cases a1 : v1 < 0
  · exact br_t a1 (br_t rfl (br_t a1 ⟨rfl, R⟩))
  by_cases a2 : 40 < v1
  · exact br_f a1 (br_t a2 (br_t rfl (br_f a1 (br_t a2 ⟨rfl, R⟩))))
  obtain ⟨x, hx, rfl⟩ := nI_of2 (n := 40) (M := 40) (by decide) a1 (Int32.not_lt.mp a2)
  obtain ⟨q1, q2, q3, q4⟩ := ih_XQ hX x hx
  have v : vp_in (nI x) 41 := vp_in_nI (by omega) (by omega)
  have e : (nI x).toNatClampNeg = x := nI_clamp (by omega)
  have t1 : (lw x).toInt = (mm x : Int) := by rw [q1]; exact nI_toInt (by omega)
  have t2 : (hg x).toInt = (hh x : Int) - 1 := by rw [q2]; exact ih_ht q4
  have t40 : (40 : Int32).toInt = 40 := by decide
  unfold wpX_has
  dsimp only
  refine ih_xgr hx ?_
  refine br_f ih_nz1 ⟨v, ?_⟩
  rw [e]
  by_cases b1 : v2 < 0
  · refine br_t ?_ (br_f a1 (br_f a2 (br_t b1 ⟨rfl, R⟩)))
    rw [Int32.lt_iff_toInt_lt] at b1 ⊢
    rw [ih_0t] at b1
    omega
  by_cases b2 : v2 ≤ 40
  · obtain ⟨y, hy, rfl⟩ := nI_of2 (n := 40) (M := 40) (by decide) b1 b2
    have ty : (nI y).toInt = (y : Int) := nI_toInt (by omega)
    have kf := (hX.1 x hx).2.2.2.2 y hy
    by_cases z1 : nI y < lw x
    · refine br_t z1 (ih_yhas hx hy hn (fun w => ?_) (fun _ => ⟨rfl, R⟩))
      rw [Int32.lt_iff_toInt_lt, t1, ty] at z1
      have := kf.mp w
      omega
    by_cases z2 : hg x < nI y
    · refine br_f z1 ⟨v, br_t z2 (ih_yhas hx hy hn (fun w => ?_) (fun _ => ⟨rfl, R⟩))⟩
      rw [Int32.lt_iff_toInt_lt, t2, ty] at z2
      have := kf.mp w
      omega
    · refine br_f z1 ⟨v, br_f z2 (ih_yhas hx hy hn (fun _ => ⟨rfl, R⟩) (fun w => ?_))⟩
      rw [Int32.lt_iff_toInt_lt, t1, ty] at z1
      rw [Int32.lt_iff_toInt_lt, t2, ty] at z2
      exact absurd (kf.mpr ⟨by omega, by omega⟩) w
  · have Y : wpY_has (fun r' => r' = 0 ∧ i_Rel (k + 4) (nI n, nI c, A, B, C, lw, hg, cx, cy) (nI n, nI (ih_cn (ih_F mm hh) 1681), nI c, A, B, C, li, hu)) (nI n, nI (ih_cn (ih_F mm hh) 1681), nI c, A, B, C, li, hu) (nI x) v2 := br_f a1 (br_f a2 (br_f b1 (br_f b2 ⟨rfl, R⟩)))
    by_cases z1 : v2 < lw x
    · exact br_t z1 Y
    · refine br_f z1 ⟨v, br_t ?_ Y⟩
      rw [Int32.le_iff_toInt_le] at b2
      rw [Int32.lt_iff_toInt_lt]
      omega
theorem i_vc_corners {k : Nat} {u : SX} {v : SY} (I : i_Rel k u v) (hk : k + 4 ≤ 2048) : wpX_corners (fun r => wpY_corners (fun r' => r' = r ∧ i_Rel (k + 4) u v) v) u := by
  obtain ⟨n, c, A, B, C, lw, hg, cx, cy, li, hu, mm, hh, hn, hR, hX, hY, rfl, rfl⟩ := I
  exact ⟨rfl, ih_rel hn hR hX hY⟩
theorem i_vc_corner {k : Nat} {u : SX} {v : SY} (I : i_Rel k u v) (hk : k + 4 ≤ 2048) (v1 : Int32) : wpX_corner (fun r => wpY_corner (fun r' => r' = r ∧ i_Rel (k + 4) u v) v v1) u v1 := by
  obtain ⟨n, c, A, B, C, lw, hg, cx, cy, li, hu, mm, hh, hn, hR, hX, hY, rfl, rfl⟩ := I
  have R : i_Rel (k + 4) (nI n, nI c, A, B, C, lw, hg, cx, cy) (nI n, nI (ih_cn (ih_F mm hh) 1681), nI c, A, B, C, li, hu) := ih_rel hn hR hX hY
  have c82 := hX.2.1
  by_cases a1 : v1 < 0
  · exact br_t a1 (br_t a1 ⟨rfl, R⟩)
  by_cases a2 : v1 < nI c
  · obtain ⟨i, hi, rfl⟩ := nI_of a1
    have a3 := a2
    rw [nI_ltI hi (by omega)] at a3
    have e : (nI i).toNatClampNeg = i := nI_clamp (by omega)
    refine br_f a1 (br_t a2 ⟨vp_in_nI (by omega) (by omega), vp_in_nI (by omega) (by omega), br_f a1 (br_f (Int32.not_le.mpr a2) ⟨vp_in_nI (by omega) (by omega), ?_, R⟩)⟩)
    rw [e]
    exact hY.2 i a3
  · exact br_f a1 (br_f a2 (br_f a1 (br_t (Int32.not_lt.mp a2) ⟨rfl, R⟩)))

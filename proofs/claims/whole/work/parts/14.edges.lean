section EX
variable {nn : Int32} {A B C lw hg cx cy : Nat → Int32} {c : Nat} {mm hh : Nat → Nat}
theorem ih_xca {post : Int32 → Prop} {i : Nat} (hc : c ≤ 82) (hi : i < c) (h : post (nI (ih_af c i))) : wpX_cornerAfter post (nn, nI c, A, B, C, lw, hg, cx, cy) (nI i) := by
  unfold ih_af at h
  unfold wpX_cornerAfter
  dsimp only
  rw [nI_1 i]
  by_cases z : i + 1 < c
  · rw [if_pos z] at h
    exact br_f (nI_ge z (by omega)) h
  · rw [if_neg z] at h
    exact br_t (nI_le (by omega) (by omega)) h
theorem ih_xar4 {post : Int32 → Prop} (hc : c ≤ 82) (K : post (ih_sh cx cy (c - 1) + (cx (c - 1) * cy 0 - cx 0 * cy (c - 1)))) : ∀ d i, i + d + 1 = c → wX_area2_4 post nn (nI c) A B C lw hg cx cy (d + 1 + 1) (ih_sh cx cy i) (nI i) := by
  intro d
  induction d with
  | zero =>
    intro i hi
    have v : vp_in (nI i) 82 := vp_in_nI (by omega) (by omega)
    have e : (nI i).toNatClampNeg = i := nI_clamp (by omega)
    have v0 : vp_in (nI 0) 82 := vp_in_nI (by omega) (by omega)
    have z0 : (nI 0).toNatClampNeg = 0 := nI_clamp (by omega)
    refine br_f (nI_ge (by omega) (by omega)) (ih_xca hc (by omega) ?_)
    rw [show ih_af c i = 0 by unfold ih_af; rw [if_neg (by omega)]]
    refine ⟨v, v0, v0, v, nm_e (nm_r (nI_1 i) ?_)⟩
    rw [e, z0, show i = c - 1 by omega]
    exact br_t (nI_le (by omega) (by omega)) K
  | succ d ih =>
    intro i hi
    have v : vp_in (nI i) 82 := vp_in_nI (by omega) (by omega)
    have e : (nI i).toNatClampNeg = i := nI_clamp (by omega)
    have v1 : vp_in (nI (i + 1)) 82 := vp_in_nI (by omega) (by omega)
    have e1 : (nI (i + 1)).toNatClampNeg = i + 1 := nI_clamp (by omega)
    refine br_f (nI_ge (by omega) (by omega)) (ih_xca hc (by omega) ?_)
    rw [show ih_af c i = i + 1 by unfold ih_af; rw [if_pos (by omega)]]
    refine ⟨v, v1, v1, v, nm_e (nm_r (nI_1 i) ?_)⟩
    rw [e, e1]
    exact ih (i + 1) (by omega)
theorem ih_xoe2 {post : Int32 → Prop} (hC : ih_C mm hh) (hH : ih_HC (ih_S mm hh) c (ih_p cx cy)) {x y : Nat} (hx : x ≤ 40) (hy : y ≤ 40) (h1 : ih_B c (ih_p cx cy) ((x : Int), (y : Int)) → post 1) (h0 : ¬ ih_B c (ih_p cx cy) ((x : Int), (y : Int)) → post 0) : ∀ d i, i + d = c → (∀ j, j < i → ¬ ih_T (ih_p cx cy j) (ih_p cx cy (ih_af c j)) ((x : Int), (y : Int)) = 0) → wX_onEdge_2 post (nI x) (nI y) nn (nI c) A B C lw hg cx cy (d + 1) (nI i) := by
  have c82 := hH.1
  intro d
  induction d with
  | zero =>
    intro i hi hj
    refine br_t (nI_le (by omega) (by omega)) (h0 ?_)
    rintro ⟨j, j1, j2⟩
    exact hj j (by omega) j2
  | succ d ih =>
    intro i hi hj
    have ac : ih_af c i < c := by
      unfold ih_af
      split <;> omega
    have p1 := (ih_Sp hC (hH.2.1 i (by omega))).2.2.2
    have p2 := (ih_Sp hC (hH.2.1 (ih_af c i) ac)).2.2.2
    have t := ih_turn p1.1 p1.2 p2.1 p2.2 (ih_gn hx) (ih_gn hy)
    rw [nI_toInt (n := x) (by omega), nI_toInt (n := y) (by omega)] at t
    refine br_f (nI_ge (by omega) (by omega)) (ih_xca c82 (by omega) (ih_xturn (by omega) (by omega) ?_))
    by_cases z : (cx (ih_af c i) - cx i) * (nI y - cy i) - (cy (ih_af c i) - cy i) * (nI x - cx i) = 0
    · refine br_t z (h1 ⟨i, by omega, ?_⟩)
      rw [ih_eq0, t] at z
      exact z
    · refine br_f z (nm_r (nI_1 i) (ih (i + 1) (by omega) (lt_s hj ?_)))
      rw [ih_eq0, t] at z
      exact z
theorem ih_xoe {post : Int32 → Prop} (hC : ih_C mm hh) (hH : ih_HC (ih_S mm hh) c (ih_p cx cy)) {x y : Nat} (hx : x ≤ 40) (hy : y ≤ 40) (h1 : ih_B c (ih_p cx cy) ((x : Int), (y : Int)) → post 1) (h0 : ¬ ih_B c (ih_p cx cy) ((x : Int), (y : Int)) → post 0) : wpX_onEdge post (nn, nI c, A, B, C, lw, hg, cx, cy) (nI x) (nI y) :=
  ⟨c + 1, ih_xoe2 hC hH hx hy h1 h0 c 0 (Nat.zero_add c) (fun j hj => absurd hj (Nat.not_lt_zero j))⟩
theorem ih_xb17 {post : Int32 → Prop} {J : Int32 → Int32 → Prop} (hQ : ih_Q mm hh lw hg) (hH : ih_HC (ih_S mm hh) c (ih_p cx cy)) {x : Nat} (hx : x ≤ 40) (K : J (nI (ih_cn (ih_G mm hh c (ih_p cx cy)) (41 * (x + 1)))) (nI (x + 1))) : ∀ d y, y + d = hh x → mm x ≤ y → wX_border_17 post J (nI x) nn (nI c) A B C lw hg cx cy (d + 1) (nI (ih_cn (ih_G mm hh c (ih_p cx cy)) (41 * x + y))) (nI y) := by
  obtain ⟨q1, q2, q3, q4⟩ := hQ x hx
  have v : vp_in (nI x) 41 := vp_in_nI (by omega) (by omega)
  have e : (nI x).toNatClampNeg = x := nI_clamp (by omega)
  have t2 : (hg x).toInt = (hh x : Int) - 1 := by rw [q2]; exact ih_ht q4
  intro d
  induction d with
  | zero =>
    intro y hy hm
    have ty : (nI y).toInt = (y : Int) := nI_toInt (by omega)
    refine ⟨v, ?_⟩
    rw [e]
    refine br_t (by rw [Int32.lt_iff_toInt_lt, t2, ty]; omega) (nm_r (nI_1 x) ?_)
    rw [show y = hh x by omega, ← ih_Ghi q4]
    exact K
  | succ d ih =>
    intro y hy hm
    have ty : (nI y).toInt = (y : Int) := nI_toInt (by omega)
    have i2 := ih (y + 1) (by omega) (by omega)
    rw [← Nat.add_assoc] at i2
    refine ⟨v, ?_⟩
    rw [e]
    refine br_f (by rw [Int32.lt_iff_toInt_lt, t2, ty]; omega) (ih_xoe (ih_QC hQ) hH hx (by omega) (fun b => ?_) (fun b => ?_))
    · rw [ih_cs ((ih_Gi (by omega)).mpr ⟨⟨hm, by omega⟩, b⟩)] at i2
      exact br_f ih_nz1 (nm_r (nI_1 _) (nm_r (nI_1 y) i2))
    · rw [ih_cf (fun w => b ((ih_Gi (by omega)).mp w).2)] at i2
      exact br_t rfl (nm_r (nI_1 y) i2)
theorem ih_xb4 {post : Int32 → Prop} (hQ : ih_Q mm hh lw hg) (hH : ih_HC (ih_S mm hh) c (ih_p cx cy)) (K : post (nI (ih_cn (ih_G mm hh c (ih_p cx cy)) 1681))) : ∀ d x, x + d = 41 → wX_border_4 post nn (nI c) A B C lw hg cx cy (d + 1) (nI (ih_cn (ih_G mm hh c (ih_p cx cy)) (41 * x))) (nI x) := by
  intro d
  induction d with
  | zero =>
    intro x hx
    have ex : x = 41 := by omega
    rw [ex]
    exact br_t (nI_lt (a := 40) (by omega) (by omega)) K
  | succ d ih =>
    intro x hx
    obtain ⟨q1, q2, q3, q4⟩ := hQ x (by omega)
    have v : vp_in (nI x) 41 := vp_in_nI (by omega) (by omega)
    have e : (nI x).toNatClampNeg = x := nI_clamp (by omega)
    refine br_f (nI_nlt (a := 40) (by omega) (by omega)) ⟨v, nm_r (e' := nI (mm x)) (by rw [e, q1]) ⟨hh x - mm x + 1, ?_⟩⟩
    have i3 := ih_xb17 (post := post) (nn := nn) (A := A) (B := B) (C := C) (J := wX_border_4 post nn (nI c) A B C lw hg cx cy (d + 1)) hQ hH (x := x) (by omega) (ih (x + 1) (by omega)) (hh x - mm x) (mm x) (by omega) (Nat.le_refl _)
    rw [ih_Glo (by omega)] at i3
    exact i3
end EX
section EY
variable {nn ll : Int32} {A B C li hu cx cy : Nat → Int32} {c : Nat} {mm hh : Nat → Nat}
theorem ih_trh (hC : ih_C mm hh) (hH : ih_HC (ih_S mm hh) c (ih_p cx cy)) (hU : ∀ k, k < c → hu k = cx k + 64 * cy k) {i j k : Nat} (hi : i < c) (hj : j < c) (hk : k < c) : ih_tr (hu i) (hu j) (hu k) = (cx j - cx i) * (cy k - cy i) - (cy j - cy i) * (cx k - cx i) := by
  have pi := ih_Sp hC (hH.2.1 i hi)
  have pj := ih_Sp hC (hH.2.1 j hj)
  have pk := ih_Sp hC (hH.2.1 k hk)
  unfold ih_tr
  rw [hU i hi, hU j hj, hU k hk, pi.2.1, pi.2.2.1, pj.2.1, pj.2.2.1, pk.2.1, pk.2.2.1]
theorem ih_yar4 {post : Int32 → Prop} (hC : ih_C mm hh) (hH : ih_HC (ih_S mm hh) c (ih_p cx cy)) (hU : ∀ k, k < c → hu k = cx k + 64 * cy k) (K : post (ih_sh cx cy (c - 1) - (cx 0 * cy (c - 1) - cx (c - 1) * cy 0))) : ∀ d k, k + d + 1 = c → 1 ≤ k → wY_area2_4 post nn ll (nI c) A B C li hu (d + 1) (ih_sh cx cy k - (cx 0 * cy k - cx k * cy 0)) (nI k) := by
  have c82 := hH.1
  intro d
  induction d with
  | zero =>
    intro k hk h1
    have ek : k = c - 1 := by omega
    have q : nI c ≤ nI k + 1 := by
      rw [nI_1]
      exact nI_le (by omega) (by omega)
    rw [ek] at q ⊢
    exact br_t q K
  | succ d ih =>
    intro k hk h1
    have v : vp_in (nI k) 256 := vp_in_nI (by omega) (by omega)
    have e : (nI k).toNatClampNeg = k := nI_clamp (by omega)
    have v1 : vp_in (nI k + 1) 256 := by
      rw [nI_1]
      exact vp_in_nI (by omega) (by omega)
    have e1 : (nI k + 1).toNatClampNeg = k + 1 := by
      rw [nI_1]
      exact nI_clamp (by omega)
    have q : ¬ nI c ≤ nI k + 1 := by
      rw [nI_1]
      exact nI_ge (by omega) (by omega)
    have i2 := ih (k + 1) (by omega) (by omega)
    refine br_f q ⟨v, v1, ih_yturn (nm_r (e' := ih_sh cx cy (k + 1) - (cx 0 * cy (k + 1) - cx (k + 1) * cy 0)) ?_ (nm_r (nI_1 k) i2))⟩
    rw [e, e1, ih_trh hC hH hU (by omega) (by omega) (by omega)]
    exact ih_fan _ _ _ _ _ _ _
theorem ih_yob2 {post : Int32 → Prop} (hC : ih_C mm hh) (hH : ih_HC (ih_S mm hh) c (ih_p cx cy)) (hU : ∀ k, k < c → hu k = cx k + 64 * cy k) {q : ih_V} {w : Int32} (hw : ih_W q w) (h1 : ih_B c (ih_p cx cy) q → post 1) (h0 : ¬ ih_B c (ih_p cx cy) q → post 0) : ∀ d i, i + d = c → (∀ j, j < i → ¬ ih_T (ih_p cx cy j) (ih_p cx cy (ih_af c j)) q = 0) → wY_onBorder_2 post w nn ll (nI c) A B C li hu (d + 1) (nI i) := by
  have c82 := hH.1
  intro d
  induction d with
  | zero =>
    intro i hi hj
    refine br_t (nI_le (by omega) (by omega)) (h0 ?_)
    rintro ⟨j, j1, j2⟩
    exact hj j (by omega) j2
  | succ d ih =>
    intro i hi hj
    have ac : ih_af c i < c := by
      unfold ih_af
      split <;> omega
    have v : vp_in (nI i) 256 := vp_in_nI (by omega) (by omega)
    have e : (nI i).toNatClampNeg = i := nI_clamp (by omega)
    have p1 := (ih_Sp hC (hH.2.1 i (by omega))).1
    have p2 := (ih_Sp hC (hH.2.1 (ih_af c i) ac)).1
    rw [← hU i (by omega)] at p1
    rw [← hU (ih_af c i) ac] at p2
    have t := ih_Wt p1 p2 hw
    have go : wY_onBorder_37 post (wY_onBorder_2 post w nn ll (nI c) A B C li hu (d + 1)) w (nI i) (hu (ih_af c i)) nn ll (nI c) A B C li hu := by
      refine ⟨v, ih_yturn ?_⟩
      rw [e]
      by_cases z : ih_tr (hu i) (hu (ih_af c i)) w = 0
      · refine br_t z (h1 ⟨i, by omega, ?_⟩)
        rw [ih_eq0, t] at z
        exact z
      · refine br_f z (nm_r (nI_1 i) (ih (i + 1) (by omega) (lt_s hj ?_)))
        rw [ih_eq0, t] at z
        exact z
    refine br_f (nI_ge (by omega) (by omega)) ?_
    rw [nI_1 i]
    by_cases z : i + 1 < c
    · rw [show ih_af c i = i + 1 by unfold ih_af; rw [if_pos z]] at go
      refine br_f (nI_ge z (by omega)) ⟨vp_in_nI (by omega) (by omega), ?_⟩
      rw [nI_clamp (by omega)]
      exact go
    · rw [show ih_af c i = 0 by unfold ih_af; rw [if_neg z]] at go
      exact br_t (nI_le (by omega) (by omega)) go
theorem ih_yob {post : Int32 → Prop} (hC : ih_C mm hh) (hH : ih_HC (ih_S mm hh) c (ih_p cx cy)) (hU : ∀ k, k < c → hu k = cx k + 64 * cy k) {q : ih_V} {w : Int32} (hw : ih_W q w) (h1 : ih_B c (ih_p cx cy) q → post 1) (h0 : ¬ ih_B c (ih_p cx cy) q → post 0) : wpY_onBorder post (nn, ll, nI c, A, B, C, li, hu) w :=
  ⟨c + 1, ih_yob2 hC hH hU hw h1 h0 c 0 (Nat.zero_add c) (fun j hj => absurd hj (Nat.not_lt_zero j))⟩
/-- cell k of the list lies on the border -/
def ih_Qb (li cx cy : Nat → Int32) (c k : Nat) : Prop := ∃ q, ih_W q (li k) ∧ ih_B c (ih_p cx cy) q
theorem ih_yb4 {post : Int32 → Prop} (hC : ih_C mm hh) (hL : ih_LF mm hh li) (hH : ih_HC (ih_S mm hh) c (ih_p cx cy)) (hU : ∀ k, k < c → hu k = cx k + 64 * cy k) {L : Nat} (hLe : L = ih_cn (ih_F mm hh) 1681) (K : post (nI (ih_cn (ih_Qb li cx cy c) L))) : ∀ d k, k + d = L → wY_border_4 post nn (nI L) (nI c) A B C li hu (d + 1) (nI (ih_cn (ih_Qb li cx cy c) k)) (nI k) := by
  have c82 := hH.1
  have L1 : L ≤ 1681 := by
    rw [hLe]
    exact ih_cle _ 1681
  intro d
  induction d with
  | zero =>
    intro k hk
    have ek : k = L := by omega
    rw [ek]
    exact br_t (nI_le (by omega) (by omega)) K
  | succ d ih =>
    intro k hk
    have v : vp_in (nI k) 1681 := vp_in_nI (by omega) (by omega)
    have e : (nI k).toNatClampNeg = k := nI_clamp (by omega)
    obtain ⟨q, hq, hw⟩ := ih_Lk hC hL (k := k) (by rw [← hLe]; omega)
    have i2 := ih (k + 1) (by omega)
    refine br_f (nI_ge (by omega) (by omega)) ?_
    by_cases z : c < 3
    · rw [ih_cs (P := ih_Qb li cx cy c) ⟨q, hw, ih_Bs hH z hq⟩] at i2
      exact br_t (nI_lt (b := 3) z (by omega)) (nm_r (nI_1 _) (nm_r (nI_1 k) i2))
    · refine br_f (nI_nlt (b := 3) (by omega) (by omega)) ⟨v, ?_⟩
      rw [e]
      refine ih_yob hC hH hU hw (fun b => ?_) (fun b => ?_)
      · rw [ih_cs (P := ih_Qb li cx cy c) ⟨q, hw, b⟩] at i2
        exact br_f ih_nz1 (nm_r (nI_1 _) (nm_r (nI_1 k) i2))
      · have nb : ¬ ih_Qb li cx cy c k := by
          rintro ⟨q', hw', b'⟩
          rw [(ih_We hw' hw).mp rfl] at b'
          exact b b'
        rw [ih_cf nb] at i2
        exact br_t rfl (nm_r (nI_1 k) i2)
theorem ih_ybd {post : Int32 → Prop} (hC : ih_C mm hh) (hL : ih_LF mm hh li) (hH : ih_HC (ih_S mm hh) c (ih_p cx cy)) (hU : ∀ k, k < c → hu k = cx k + 64 * cy k) (K : post (nI (ih_cn (ih_G mm hh c (ih_p cx cy)) 1681))) : wpY_border post (nn, nI (ih_cn (ih_F mm hh) 1681), nI c, A, B, C, li, hu) := by
  have e := ih_ccl (F := ih_F mm hh) (Q := ih_Qb li cx cy c) (Q' := fun i => ih_B c (ih_p cx cy) (((i / 41 : Nat) : Int), ((i % 41 : Nat) : Int))) 1681 (fun i hi hFi => by
    have w : ih_W (((i / 41 : Nat) : Int), ((i % 41 : Nat) : Int)) (li (ih_cn (ih_F mm hh) i)) := ⟨i / 41, i % 41, by omega, by omega, rfl, hL i hi hFi⟩
    constructor
    · rintro ⟨q, hw, b⟩
      rw [(ih_We hw w).mp rfl] at b
      exact b
    · intro b
      exact ⟨_, w, b⟩)
  have K' : post (nI (ih_cn (ih_Qb li cx cy c) (ih_cn (ih_F mm hh) 1681))) := by
    rw [e]
    exact K
  exact ⟨ih_cn (ih_F mm hh) 1681 + 1, ih_yb4 hC hL hH hU rfl K' (ih_cn (ih_F mm hh) 1681) 0 (Nat.zero_add _)⟩
end EY
theorem i_vc_area2 {k : Nat} {u : SX} {v : SY} (I : i_Rel k u v) (hk : k + 4 ≤ 2048) : wpX_area2 (fun r => wpY_area2 (fun r' => r' = r ∧ i_Rel (k + 4) u v) v) u := by
  obtain ⟨n, c, A, B, C, lw, hg, cx, cy, li, hu, mm, hh, hn, hR, hX, hY, rfl, rfl⟩ := I
  have R : i_Rel (k + 4) (nI n, nI c, A, B, C, lw, hg, cx, cy) (nI n, nI (ih_cn (ih_F mm hh) 1681), nI c, A, B, C, li, hu) := ih_rel hn hR hX hY
  have hC := ih_QC (ih_XQ hX)
  have c82 := hX.2.1
  by_cases c0 : c = 0
  · have q1 : nI c ≤ 0 := nI_le (b := 0) (by omega) (by omega)
    have q2 : nI c ≤ 1 + 1 := nI_le (b := 2) (by omega) (by omega)
    exact ⟨1, br_t q1 ⟨1, br_t q2 ⟨rfl, R⟩⟩⟩
  · refine ⟨c - 1 + 1 + 1, ih_xar4 (by omega) ?_ (c - 1) 0 (by omega)⟩
    by_cases c1 : c = 1
    · have q2 : nI c ≤ 1 + 1 := nI_le (b := 2) (by omega) (by omega)
      refine ⟨1, br_t q2 ⟨?_, R⟩⟩
      rw [c1]
      show (0 : Int32) = 0 + (cx 0 * cy 0 - cx 0 * cy 0)
      grind
    · have i2 := ih_yar4 (post := fun r' => r' = ih_sh cx cy (c - 1) + (cx (c - 1) * cy 0 - cx 0 * cy (c - 1)) ∧ i_Rel (k + 4) (nI n, nI c, A, B, C, lw, hg, cx, cy) (nI n, nI (ih_cn (ih_F mm hh) 1681), nI c, A, B, C, li, hu)) (nn := nI n) (ll := nI (ih_cn (ih_F mm hh) 1681)) (A := A) (B := B) (C := C) (li := li) hC hX.2 hY.2 ⟨(ih_shE _ _ _ _ _).symm, R⟩ (c - 2) 1 (by omega) (by omega)
      rw [ih_sh1] at i2
      exact ⟨c - 2 + 1, i2⟩
theorem i_vc_border {k : Nat} {u : SX} {v : SY} (I : i_Rel k u v) (hk : k + 4 ≤ 2048) : wpX_border (fun r => wpY_border (fun r' => r' = r ∧ i_Rel (k + 4) u v) v) u := by
  obtain ⟨n, c, A, B, C, lw, hg, cx, cy, li, hu, mm, hh, hn, hR, hX, hY, rfl, rfl⟩ := I
  have R : i_Rel (k + 4) (nI n, nI c, A, B, C, lw, hg, cx, cy) (nI n, nI (ih_cn (ih_F mm hh) 1681), nI c, A, B, C, li, hu) := ih_rel hn hR hX hY
  exact ⟨42, ih_xb4 (ih_XQ hX) hX.2 (ih_ybd (ih_QC (ih_XQ hX)) hY.1 hX.2 hY.2 ⟨rfl, R⟩) 41 0 (by omega)⟩

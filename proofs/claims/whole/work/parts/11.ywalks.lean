section YW
variable {n : Nat} {nn ll hs : Int32} {A B C li hu : Nat → Int32}
theorem ih_yhas24 {post : Int32 → Prop} {x y : Int32} (hn : n ≤ 8) (h1 : (∀ i, i < n → A i * x + B i * y ≤ C i) → post 1) (h0 : ∀ i, i < n → ¬ A i * x + B i * y ≤ C i → post 0) : ∀ d i, i + d = n → (∀ j, j < i → A j * x + B j * y ≤ C j) → wY_has_24 post x y (nI n) ll hs A B C li hu (d + 1) (nI i) := by
  intro d
  induction d with
  | zero =>
    intro i hi hj
    exact br_t (nI_le (by omega) (by omega)) (h1 (fun j hj' => hj j (by omega)))
  | succ d ih =>
    intro i hi hj
    have v : vp_in (nI i) 8 := vp_in_nI (by omega) (by omega)
    have e : (nI i).toNatClampNeg = i := nI_clamp (by omega)
    refine br_f (nI_ge (by omega) (by omega)) ⟨v, v, v, ?_⟩
    rw [e]
    by_cases z : A i * x + B i * y ≤ C i
    · exact br_t z (nm_r (nI_1 i) (ih (i + 1) (by omega) (lt_s hj z)))
    · exact br_f z (h0 i (by omega) z)
theorem ih_yhas {post : Int32 → Prop} {x y : Nat} (hx : x ≤ 40) (hy : y ≤ 40) (hn : n ≤ 8) (h1 : ih_K n A B C x y → post 1) (h0 : ¬ ih_K n A B C x y → post 0) : wpY_has post (nI n, ll, hs, A, B, C, li, hu) (nI x) (nI y) :=
  br_f (nI_pos (by omega)) (br_f (nI_nlt (a := 40) hx (by omega)) (br_f (nI_pos (by omega)) (br_t (nI_le (b := 40) hy (by omega)) ⟨n + 1, ih_yhas24 hn h1 (fun i hi z => h0 (fun w => z (w i hi))) n 0 (Nat.zero_add n) lt_0⟩)))
theorem ih_yturn {post : Int32 → Prop} {a b c : Int32} (h : post (ih_tr a b c)) : wpY_turn post (nn, ll, hs, A, B, C, li, hu) a b c := h
theorem ih_ydist {post : Int32 → Prop} {a b : Int32} (h : post (ih_ds a b)) : wpY_distance post (nn, ll, hs, A, B, C, li, hu) a b := by
  intro x3 e3 x4 e4
  subst e3
  subst e4
  exact h
theorem ih_yval {post : Int32 → Prop} {P Q w : Int32} (h : post (ih_vl P Q w)) : wpY_value post (nn, ll, hs, A, B, C, li, hu) P Q w := h
theorem ih_ynx4 {post : Int32 → Prop} {mm hh : Nat → Nat} (hC : ih_C mm hh) (hL : ih_LF mm hh li) {a b : ih_V} {wa wb : Int32} {kb L : Nat} (hLe : L = ih_cn (ih_F mm hh) 1681) (hN : ih_N (ih_S mm hh) a b) (ha : ih_W a wa) (hb : ih_W b wb) (hk : kb < L) (hkb : ih_W b (li kb)) (K : post wb) : ∀ d k q be, k + d = L → (q = a ∨ ih_S mm hh q) → ih_W q be → (kb < k → q = b) → wY_next_4 post wa nn (nI L) hs A B C li hu (d + 1) be (nI k) := by
  have L1 : L ≤ 1681 := by
    rw [hLe]
    exact ih_cle _ 1681
  intro d
  induction d with
  | zero =>
    intro k q be hkd hq hw hqb
    have e := (ih_We hw hb).mpr (hqb (by omega))
    exact br_t (nI_le (by omega) (by omega)) (by rw [e]; exact K)
  | succ d ih =>
    intro k q be hkd hq hw hqb
    have v : vp_in (nI k) 1681 := vp_in_nI (by omega) (by omega)
    have e : (nI k).toNatClampNeg = k := nI_clamp (by omega)
    obtain ⟨q', hq', hw'⟩ := ih_Lk hC hL (k := k) (by rw [← hLe]; omega)
    obtain ⟨s1, s2⟩ := ih_nxt hN ha hq hw hq' hw'
    have same : kb = k → q' = b := fun w => by
      rw [w] at hkb
      exact (ih_We hw' hkb).mp rfl
    have taken : ih_nc wa be (li k) → wY_next_4 post wa nn (nI L) hs A B C li hu (d + 1) (li k) (nI (k + 1)) := fun c => ih (k + 1) q' (li k) (by omega) (Or.inr hq') hw' (fun w => by
      by_cases z : kb = k
      · exact same z
      · exact s1 c (hqb (by omega)))
    have kept : ¬ ih_nc wa be (li k) → wY_next_4 post wa nn (nI L) hs A B C li hu (d + 1) be (nI (k + 1)) := fun c => ih (k + 1) q be (by omega) hq hw (fun w => by
      by_cases z : kb = k
      · exact s2 c (same z)
      · exact hqb (by omega))
    refine br_f (nI_ge (by omega) (by omega)) ⟨v, nm_r (e' := li k) (by rw [e]) (ih_yturn ?_)⟩
    by_cases z1 : be = wa
    · exact br_t z1 (nm_r (nI_1 k) (taken (Or.inl z1)))
    refine br_f z1 ?_
    by_cases z2 : ih_tr wa be (li k) < 0
    · exact br_t z2 (nm_r (nI_1 k) (taken (Or.inr (Or.inl z2))))
    refine br_f z2 ?_
    by_cases z3 : ih_tr wa be (li k) = 0
    · refine br_t z3 (ih_ydist (ih_ydist ?_))
      by_cases z4 : ih_ds wa (li k) ≤ ih_ds wa be
      · refine br_t z4 (nm_r (nI_1 k) (kept ?_))
        rintro (w | w | ⟨_, w⟩)
        · exact z1 w
        · exact z2 w
        · exact Int32.not_lt.mpr z4 w
      · exact br_f z4 (nm_r (nI_1 k) (taken (Or.inr (Or.inr ⟨z3, Int32.not_le.mp z4⟩))))
    · refine br_f z3 (nm_r (nI_1 k) (kept ?_))
      rintro (w | w | ⟨w, _⟩)
      · exact z1 w
      · exact z2 w
      · exact z3 w
theorem ih_ynext {post : Int32 → Prop} {mm hh : Nat → Nat} (hC : ih_C mm hh) (hL : ih_LF mm hh li) {a b : ih_V} {wa wb : Int32} (hN : ih_N (ih_S mm hh) a b) (ha : ih_W a wa) (hb : ih_W b wb) (hS : ih_S mm hh b) (K : post wb) : wpY_next post (nn, nI (ih_cn (ih_F mm hh) 1681), hs, A, B, C, li, hu) wa := by
  obtain ⟨kb, k1, k2⟩ := ih_Lq hC hL hS
  exact ⟨ih_cn (ih_F mm hh) 1681 + 1, ih_ynx4 hC hL rfl hN ha hb k1 k2 K (ih_cn (ih_F mm hh) 1681) 0 a wa (Nat.zero_add _) (Or.inl rfl) ha (fun w => absurd w (Nat.not_lt_zero _))⟩
def ih_aj (c k : Nat) : Nat := if k < c then k else 0
theorem ih_ywk {post : SY → Prop} {mm hh : Nat → Nat} {cx cy : Nat → Int32} {c : Nat} (hC : ih_C mm hh) (hL : ih_LF mm hh li) (hH : ih_HC (ih_S mm hh) c (ih_p cx cy)) (hc : 0 < c) (K : ∀ hu : Nat → Int32, (∀ j, j < c → hu j = cx j + 64 * cy j) → post (nn, nI (ih_cn (ih_F mm hh) 1681), nI c, A, B, C, li, hu)) : ∀ (d k : Nat) (hu : Nat → Int32), k + d = c → (∀ j, j < k → hu j = cx j + 64 * cy j) → wY_walk_22 post nn (nI (ih_cn (ih_F mm hh) 1681)) (d + 1) (cx (ih_aj c k) + 64 * cy (ih_aj c k)) (nI k) (nI k) A B C li hu := by
  have c82 := hH.1
  have w0 := (ih_L0 hC hL hH hc).1
  have p0 := ih_Sp hC (hH.2.1 0 hc)
  have e0 : cx 0 + 64 * cy 0 = li 0 := (ih_We p0.1 w0).mpr rfl
  intro d
  induction d with
  | zero =>
    intro k hu hk hj
    have ek : k = c := by omega
    rw [show ih_aj c k = 0 by unfold ih_aj; rw [if_neg (by omega)]]
    rw [ek] at hj ⊢
    exact br_f (nI_ge (b := 256) (by omega) (by omega)) (br_f (nI_ne0 hc (by omega)) (br_t e0 (K hu hj)))
  | succ d ih =>
    intro k hu hk hj
    have kc : k < c := by omega
    rw [show ih_aj c k = k by unfold ih_aj; rw [if_pos kc]]
    have pk := ih_Sp hC (hH.2.1 k kc)
    have v : vp_in (nI k) 256 := vp_in_nI (by omega) (by omega)
    have e : (nI k).toNatClampNeg = k := nI_clamp (by omega)
    have ac : ih_af c k < c := by
      unfold ih_af
      split <;> omega
    have pa := ih_Sp hC (hH.2.1 (ih_af c k) ac)
    have go : wY_walk_43 post (wY_walk_22 post nn (nI (ih_cn (ih_F mm hh) 1681)) (d + 1)) (cx k + 64 * cy k) (nI k) nn (nI (ih_cn (ih_F mm hh) 1681)) (nI k) A B C li hu := by
      refine ⟨v, nm_r (e' := upd hu k (cx k + 64 * cy k)) (by rw [e]) (nm_r (nI_1 k) (ih_ynext hC hL (ih_HN hH kc) pk.1 pa.1 (hH.2.1 _ ac) (nm_r (nI_1 k) ?_)))⟩
      refine ih (k + 1) (upd hu k (cx k + 64 * cy k)) (by omega) (fun j hj' => ?_)
      by_cases z : j = k
      · rw [z, pk_us]
      · rw [pk_un z]
        exact hj j (by omega)
    refine br_f (nI_ge (b := 256) (by omega) (by omega)) ?_
    by_cases k0 : k = 0
    · exact br_t (by rw [k0]; rfl) go
    · refine br_f (nI_ne0 (by omega) (by omega)) (br_f (fun w => ?_) go)
      exact hH.2.2.2.2.2.1 k (by omega) kc ((ih_We pk.1 w0).mp w)
theorem ih_ywalk {post : SY → Prop} {mm hh : Nat → Nat} {cx cy : Nat → Int32} {c : Nat} (hC : ih_C mm hh) (hL : ih_LF mm hh li) (hH : ih_HC (ih_S mm hh) c (ih_p cx cy)) (K : ∀ hu : Nat → Int32, (∀ j, j < c → hu j = cx j + 64 * cy j) → post (nn, nI (ih_cn (ih_F mm hh) 1681), nI c, A, B, C, li, hu)) : wpY_walk post (nn, nI (ih_cn (ih_F mm hh) 1681), hs, A, B, C, li, hu) := by
  have L1 := ih_cle (ih_F mm hh) 1681
  have z0 := ih_c0 hC hL hH
  by_cases hc : c = 0
  · have k := K hu (fun j hj => by omega)
    rw [hc] at k
    exact br_t (by rw [z0.mpr hc]; rfl) k
  · have w0 := (ih_L0 hC hL hH (by omega)).1
    have p0 := ih_Sp hC (hH.2.1 0 (by omega))
    have e0 : li 0 = cx 0 + 64 * cy 0 := (ih_We w0 p0.1).mpr rfl
    have i2 := ih_ywk hC hL hH (by omega) K c 0 hu (Nat.zero_add c) (fun j hj => absurd hj (Nat.not_lt_zero j))
    rw [show ih_aj c 0 = 0 by unfold ih_aj; split <;> rfl] at i2
    have nz : ih_cn (ih_F mm hh) 1681 ≠ 0 := fun w => hc (z0.mp w)
    exact br_f (nI_ne0 (by omega) (by omega)) (nm_r e0 ⟨c + 1, i2⟩)
theorem ih_yrf7 {post : SY → Prop} {mm hh : Nat → Nat} {lw hg cx cy : Nat → Int32} {c : Nat} (hn : n ≤ 8) (hX : ih_XF n A B C lw hg cx cy c mm hh) (K : ∀ li hu : Nat → Int32, ih_YF mm hh c cx cy li hu → post (nI n, nI (ih_cn (ih_F mm hh) 1681), nI c, A, B, C, li, hu)) : ∀ (d i : Nat) (li : Nat → Int32), i + d = 1681 → (∀ j, j < i → ih_F mm hh j → li (ih_cn (ih_F mm hh) j) = nI (j / 41 + 64 * (j % 41))) → wY_refresh_7 post (nI n) hs (d + 1) (nI i) (nI (ih_cn (ih_F mm hh) i)) A B C li hu := by
  have hC : ih_C mm hh := fun x hx => (hX.1 x hx).2.2.2.1
  intro d
  induction d with
  | zero =>
    intro i li hi hl
    have ei : i = 1681 := by omega
    rw [ei] at hl ⊢
    exact br_t (nI_le (a := 1681) (by omega) (by omega)) (ih_ywalk hC hl hX.2 (fun hu hh' => K li hu ⟨hl, hh'⟩))
  | succ d ih =>
    intro i li hi hl
    have e2 : nI i - nI i / 41 * 41 = nI (i % 41) := pk_rem (a := i) (d := 41) (by omega) (by omega) (by omega)
    have e1 : nI i / 41 = nI (i / 41) := pk_div (a := i) (d := 41) (by omega) (by omega) (by omega)
    have d41 : ¬ (41 : Int32) = 0 := by decide
    have kf := (hX.1 (i / 41) (by omega)).2.2.2.2 (i % 41) (by omega)
    refine br_f (nI_ge (b := 1681) (by omega) (by omega)) ⟨d41, d41, ?_⟩
    rw [e2, e1]
    refine ih_yhas (by omega) (by omega) hn (fun k => ?_) (fun k => ?_)
    · have hF : ih_F mm hh i := kf.mp k
      have ci := ih_cle (ih_F mm hh) i
      have v : vp_in (nI (ih_cn (ih_F mm hh) i)) 1681 := vp_in_nI (by omega) (by omega)
      have e : (nI (ih_cn (ih_F mm hh) i)).toNatClampNeg = ih_cn (ih_F mm hh) i := nI_clamp (by omega)
      refine br_f (by decide) ⟨d41, d41, v, nm_r (e' := upd li (ih_cn (ih_F mm hh) i) (nI (i / 41 + 64 * (i % 41)))) (by rw [e, ih_64]) (nm_r (nI_1 _) (nm_r (nI_1 i) ?_))⟩
      rw [← ih_cs hF]
      refine ih (i + 1) _ (by omega) (fun j hj hFj => ?_)
      by_cases z : j = i
      · rw [z, pk_us]
      · have := ih_clt hFj (show j < i by omega)
        rw [pk_un (by omega)]
        exact hl j (by omega) hFj
    · have hF : ¬ ih_F mm hh i := fun w => k (kf.mpr w)
      refine br_t rfl (nm_r (nI_1 i) ?_)
      rw [← ih_cf hF]
      refine ih (i + 1) _ (by omega) (fun j hj hFj => ?_)
      by_cases z : j = i
      · rw [z] at hFj
        exact absurd hFj hF
      · exact hl j (by omega) hFj
theorem ih_yref {post : SY → Prop} {mm hh : Nat → Nat} {lw hg cx cy : Nat → Int32} {c : Nat} (hn : n ≤ 8) (hX : ih_XF n A B C lw hg cx cy c mm hh) (K : ∀ li hu : Nat → Int32, ih_YF mm hh c cx cy li hu → post (nI n, nI (ih_cn (ih_F mm hh) 1681), nI c, A, B, C, li, hu)) : wpY_refresh post (nI n, ll, hs, A, B, C, li, hu) :=
  ⟨1682, ih_yrf7 hn hX K 1681 0 li (by omega) (fun j hj => absurd hj (Nat.not_lt_zero j))⟩
end YW

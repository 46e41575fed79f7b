section XW
variable {n : Nat} {nn cc : Int32} {A B C lw hg cx cy : Nat → Int32}
theorem ih_xful2 {post : Int32 → Prop} {x y : Int32} (hn : n ≤ 8) (h1 : (∀ i, i < n → A i * x + B i * y ≤ C i) → post 1) (h0 : ∀ i, i < n → ¬ A i * x + B i * y ≤ C i → post 0) : ∀ d i, i + d = n → (∀ j, j < i → A j * x + B j * y ≤ C j) → wX_fulfilsAll_2 post x y (nI n) cc A B C lw hg cx cy (d + 1) (nI i) := by
  intro d
  induction d with
  | zero =>
    intro i hi hj
    exact br_t (nI_le (by omega) (by omega)) (h1 (fun j hj' => hj j (by omega)))
  | succ d ih =>
    intro i hi hj
    have v : vp_in (nI i) 8 := vp_in_nI (by omega) (by omega)
    have e : (nI i).toNatClampNeg = i := nI_clamp (by omega)
    refine br_f (nI_ge (by omega) (by omega)) ⟨v, v, v, ?_⟩
    rw [e]
    by_cases z : A i * x + B i * y ≤ C i
    · exact br_t z (nm_r (nI_1 i) (ih (i + 1) (by omega) (lt_s hj z)))
    · exact br_f z (h0 i (by omega) z)
theorem ih_xful {post : Int32 → Prop} {x y : Int32} (hn : n ≤ 8) (h1 : (∀ i, i < n → A i * x + B i * y ≤ C i) → post 1) (h0 : (¬ ∀ i, i < n → A i * x + B i * y ≤ C i) → post 0) : wpX_fulfilsAll post (nI n, cc, A, B, C, lw, hg, cx, cy) x y :=
  ⟨n + 1, ih_xful2 hn h1 (fun i hi z => h0 (fun w => z (w i hi))) n 0 (Nat.zero_add n) lt_0⟩
theorem ih_xmc7 {post : SX → Prop} {x : Nat} (hx : x ≤ 40) (hn : n ≤ 8) (K : ∀ m h, ih_Ms n A B C x 41 m h → post (nI n, cc, A, B, C, upd lw x (nI m), upd hg x (nI h + (-1)), cx, cy)) : ∀ d y m h, y + d = 41 → ih_Ms n A B C x y m h → wX_measureColumn_7 post (nI x) (nI n) cc A B C lw hg cx cy (d + 1) (nI m) (nI h + (-1)) (nI y) := by
  intro d
  induction d with
  | zero =>
    intro y m h hy H
    have v : vp_in (nI x) 41 := vp_in_nI (by omega) (by omega)
    have e : (nI x).toNatClampNeg = x := nI_clamp (by omega)
    have ey : y = 41 := by omega
    rw [ey] at H
    exact br_t (nI_lt (a := 40) (by omega) (by omega)) ⟨v, nm_r (e' := upd lw x (nI m)) (by rw [e]) ⟨v, nm_r (e' := upd hg x (nI h + (-1))) (by rw [e]) (K m h H)⟩⟩
  | succ d ih =>
    intro y m h hy H
    have hh : h ≤ 41 := by
      rcases H.2 with z | ⟨z1, z2, _⟩ <;> omega
    refine br_f (nI_nlt (a := 40) (by omega) (by omega)) (ih_xful hn (fun k => ?_) (fun k => ?_))
    · refine br_f (by decide) ?_
      by_cases z : h = 0
      · have i2 := ih (y + 1) y (y + 1) (by omega) (ih_MsA (m := m) (by rw [z] at H; exact H) k)
        rw [pk_m1] at i2
        exact br_f (fun w => Int32.not_lt.mpr w ((ih_hneg hh).mpr z)) (nm_r (nI_1 y) i2)
      · have i2 := ih (y + 1) m (y + 1) (by omega) (ih_MsB H z k)
        rw [pk_m1] at i2
        exact br_t (Int32.not_lt.mp (fun w => z ((ih_hneg hh).mp w))) (nm_r (nI_1 y) i2)
    · exact br_t rfl (nm_r (nI_1 y) (ih (y + 1) m h (by omega) (ih_MsN H k)))
theorem ih_xmc {post : SX → Prop} {x : Nat} (hx : x ≤ 40) (hn : n ≤ 8) (K : ∀ m h, ih_Ms n A B C x 41 m h → post (nI n, cc, A, B, C, upd lw x (nI m), upd hg x (nI h + (-1)), cx, cy)) : wpX_measureColumn post (nI n, cc, A, B, C, lw, hg, cx, cy) (nI x) := by
  have i2 := ih_xmc7 hx hn K 41 0 0 0 (by omega) ih_Ms0
  rw [show nI 0 + (-1) = (-1 : Int32) by decide] at i2
  exact ⟨42, i2⟩
theorem ih_xturn {post : Int32 → Prop} {i j : Nat} {x y : Int32} (hi : i < 82) (hj : j < 82) (h : post ((cx j - cx i) * (y - cy i) - (cy j - cy i) * (x - cx i))) : wpX_turn post (nn, cc, A, B, C, lw, hg, cx, cy) (nI i) (nI j) x y := by
  have vi : vp_in (nI i) 82 := vp_in_nI hi (by omega)
  have vj : vp_in (nI j) 82 := vp_in_nI hj (by omega)
  have ei : (nI i).toNatClampNeg = i := nI_clamp (by omega)
  have ej : (nI j).toNatClampNeg = j := nI_clamp (by omega)
  refine ⟨vj, vi, vi, vj, vi, vi, ?_⟩
  rw [ei, ej]
  exact h
theorem ih_xec44 {post : SX → Prop} {x y : Int32} {c : Nat} (hc : c < 82) (h : post (nn, nI (c + 1), A, B, C, lw, hg, upd cx c x, upd cy c y)) : wX_extendChain_44 post x y nn (nI c) A B C lw hg cx cy := by
  have v : vp_in (nI c) 82 := vp_in_nI hc (by omega)
  have e : (nI c).toNatClampNeg = c := nI_clamp (by omega)
  exact ⟨v, nm_r (e' := upd cx c x) (by rw [e]) ⟨v, nm_r (e' := upd cy c y) (by rw [e]) (nm_r (nI_1 c) h)⟩⟩
theorem ih_xec0 {post : SX → Prop} {f : Nat} {x y : Int32} (hf : f ≤ 81) (gx : ih_g x) (gy : ih_g y) : ∀ c, c < 82 → (∀ i, i < c → ih_g (cx i) ∧ ih_g (cy i)) → (∀ d, ih_R f c d (ih_p cx cy) (x.toInt, y.toInt) → post (nn, nI (d + 1), A, B, C, lw, hg, upd cx d x, upd cy d y)) → wX_extendChain_0 post (nI f) x y nn A B C lw hg cx cy (c + 1) (nI c) := by
  intro c
  induction c with
  | zero =>
    intro h1 h2 K
    have lt : nI 0 < nI f + 2 := by
      rw [show nI f + 2 = nI (f + 2) from nI_add f 2]
      exact nI_lt (by omega) (by omega)
    exact br_t lt (ih_xec44 (c := 0) (by omega) (K 0 ⟨Nat.le_refl _, fun j a b => by omega, fun w => by omega⟩))
  | succ c ih =>
    intro h1 h2 K
    have e3 : nI f + 2 = nI (f + 2) := nI_add f 2
    by_cases z : c + 1 < f + 2
    · exact br_t (by rw [e3]; exact nI_lt z (by omega)) (ih_xec44 h1 (K (c + 1) ⟨Nat.le_refl _, fun j a b => by omega, fun w => by omega⟩))
    · have e1 : nI (c + 1) - 1 = nI c := nI_pred c
      have e2 : nI (c + 1) - 2 = nI (c - 1) := by
        rw [show (2 : Int32) = nI 2 from rfl, pk_sub (by omega)]
        exact congrArg nI (by omega)
      refine br_f (by rw [e3]; exact nI_nlt (by omega) (by omega)) ?_
      rw [e1, e2]
      refine ih_xturn (by omega) (by omega) ?_
      have t := ih_turn (h2 (c - 1) (by omega)).1 (h2 (c - 1) (by omega)).2 (h2 c (by omega)).1 (h2 c (by omega)).2 gx gy
      have t' : ((cx c - cx (c - 1)) * (y - cy (c - 1)) - (cy c - cy (c - 1)) * (x - cx (c - 1))).toInt = ih_T (ih_p cx cy (c - 1)) (ih_p cx cy c) (x.toInt, y.toInt) := t
      by_cases w : 0 < (cx c - cx (c - 1)) * (y - cy (c - 1)) - (cy c - cy (c - 1)) * (x - cx (c - 1))
      · refine br_t w (ih_xec44 h1 (K (c + 1) ⟨Nat.le_refl _, fun j a b => by omega, fun _ => ?_⟩))
        rw [Int32.lt_iff_toInt_lt, t', ih_0t] at w
        rw [show c + 1 - 2 = c - 1 by omega, show c + 1 - 1 = c by omega]
        exact w
      · refine br_f w (nm_e (ih (by omega) (fun i hi => h2 i (by omega)) (fun d hR => K d ⟨by have := hR.1; omega, fun j a b => ?_, hR.2.2⟩)))
        by_cases q : j = c
        · rw [q]
          rw [Int32.lt_iff_toInt_lt, t', ih_0t] at w
          exact ⟨by omega, by omega⟩
        · exact hR.2.1 j a (by omega)
theorem ih_xec {post : SX → Prop} {f c : Nat} {x y : Int32} (hf : f ≤ 81) (gx : ih_g x) (gy : ih_g y) (hc : c < 82) (hg' : ∀ i, i < c → ih_g (cx i) ∧ ih_g (cy i)) (K : ∀ d, ih_R f c d (ih_p cx cy) (x.toInt, y.toInt) → post (nn, nI (d + 1), A, B, C, lw, hg, upd cx d x, upd cy d y)) : wpX_extendChain post (nn, nI c, A, B, C, lw, hg, cx, cy) (nI f) x y :=
  ⟨c + 1, ih_xec0 hf gx gy c hc hg' K⟩
end XW
theorem ih_pu1 {cx cy : Nat → Int32} {x y : Int32} {d i : Nat} (h : i ≠ d) : ih_p (upd cx d x) (upd cy d y) i = ih_p cx cy i := by
  unfold ih_p
  rw [pk_un h, pk_un h]
theorem ih_pu2 {cx cy : Nat → Int32} {x y : Int32} {d : Nat} : ih_p (upd cx d x) (upd cy d y) d = (x.toInt, y.toInt) := by
  unfold ih_p
  rw [pk_us, pk_us]
theorem ih_pug {cx cy : Nat → Int32} {x y : Int32} {c d : Nat} (hd : d ≤ c) (gx : ih_g x) (gy : ih_g y) (h : ∀ i, i < c → ih_g (cx i) ∧ ih_g (cy i)) : ∀ i, i < d + 1 → ih_g (upd cx d x i) ∧ ih_g (upd cy d y i) := by
  intro i hi
  by_cases e : i = d
  · rw [e, pk_us, pk_us]
    exact ⟨gx, gy⟩
  · rw [pk_un e, pk_un e]
    exact h i (by omega)
/-- the two arrays of the columns -/
def ih_Q (mm hh : Nat → Nat) (lw hg : Nat → Int32) : Prop := ∀ x, x ≤ 40 → lw x = nI (mm x) ∧ hg x = nI (hh x) + (-1) ∧ mm x ≤ hh x ∧ hh x ≤ 41
theorem ih_QC {mm hh : Nat → Nat} {lw hg : Nat → Int32} (h : ih_Q mm hh lw hg) : ih_C mm hh := fun x hx => (h x hx).2.2.2
theorem ih_cmp {mm hh : Nat → Nat} {lw hg : Nat → Int32} (h : ih_Q mm hh lw hg) {x : Nat} (hx : x ≤ 40) : hg x < lw x ↔ ¬ mm x < hh x := by
  obtain ⟨h1, h2, h3, h4⟩ := h x hx
  rw [h1, h2, Int32.lt_iff_toInt_lt, ih_ht h4, nI_toInt (by omega)]
  omega
section XT
variable {nn : Int32} {A B C lw hg : Nat → Int32} {mm hh : Nat → Nat}
theorem ih_xtr64 {post : SX → Prop} (hQ : ih_Q mm hh lw hg) (K : ∀ (cx cy : Nat → Int32) (c : Nat), ih_HC (ih_S mm hh) c (ih_p cx cy) → post (nn, nI c, A, B, C, lw, hg, cx, cy)) {f xr : Nat} (hf : f ≤ 40) : ∀ (k : Nat) (cx cy : Nat → Int32) (c : Nat), k ≤ 41 → ih_J (1, 0) 0 f (ih_p cx cy) (ih_PL mm hh 41) → ih_IU mm hh f xr k c (ih_p cx cy) → (∀ i, i < c → ih_g (cx i) ∧ ih_g (cy i)) → wX_traceHull_64 post (nI f) (k + 1) (nI k + (-1)) nn (nI c) A B C lw hg cx cy := by
  have hC := ih_QC hQ
  intro k
  induction k with
  | zero =>
    intro cx cy c _ lo iu g
    have c1 : f + 1 ≤ c := iu.2.2.2.2.1
    have c2 := iu.2.2.2.2.2.1
    have e1 : nI c - 1 = nI (c - 1) := by
      rw [show (1 : Int32) = nI 1 from rfl, pk_sub (by omega)]
    have v : vp_in (nI (c - 1)) 82 := vp_in_nI (by omega) (by omega)
    have e : (nI (c - 1)).toNatClampNeg = c - 1 := nI_clamp (by omega)
    refine br_t ((ih_hneg (by omega)).mpr rfl) (nm_r e1 ?_)
    by_cases z : c - 1 ≤ 0
    · exact br_t (nI_le (b := 0) z (by omega)) (K cx cy c (ih_fin hC hf lo iu (Or.inr ⟨fun w => by omega, rfl⟩)))
    · refine br_f (nI_nle (by omega) (by omega)) ⟨v, ?_⟩
      rw [e]
      by_cases zx : cx (c - 1) = cx 0
      · refine br_t zx ⟨v, ?_⟩
        by_cases zy : cy (c - 1) = cy 0
        · refine br_t zy (K cx cy (c - 1) (ih_fin hC hf lo iu (Or.inl ⟨by omega, ?_, rfl⟩)))
          unfold ih_p
          rw [zx, zy]
        · refine br_f zy (K cx cy c (ih_fin hC hf lo iu (Or.inr ⟨fun w => zy ?_, rfl⟩)))
          exact Int32.toInt_inj.mp (congrArg Prod.snd w.2)
      · refine br_f zx (K cx cy c (ih_fin hC hf lo iu (Or.inr ⟨fun w => zx ?_, rfl⟩)))
        exact Int32.toInt_inj.mp (congrArg Prod.fst w.2)
  | succ k ih =>
    intro cx cy c hk lo iu g
    rw [pk_m1]
    have v : vp_in (nI k) 41 := vp_in_nI (by omega) (by omega)
    have e : (nI k).toNatClampNeg = k := nI_clamp (by omega)
    refine br_f (nI_pos (by omega)) ⟨v, v, ?_⟩
    rw [e]
    by_cases z : hg k < lw k
    · exact br_t z (nm_e (ih cx cy c (by omega) lo (ih_IUe (by omega) iu ((ih_cmp hQ (by omega)).mp z)) g))
    · have hn : mm k < hh k := Classical.byContradiction (fun w => z ((ih_cmp hQ (by omega)).mpr w))
      obtain ⟨q1, q2, q3, q4⟩ := hQ k (by omega)
      have ty : (hg k).toInt = (hh k : Int) - 1 := by rw [q2]; exact ih_ht q4
      have tx : (nI k).toInt = (k : Int) := nI_toInt (by omega)
      have gy : ih_g (hg k) := by
        unfold ih_g
        omega
      have gx : ih_g (nI k) := ih_gn (by omega)
      have c2 := iu.2.2.2.2.2.1
      refine br_f z ⟨v, ih_xec (by omega) gx gy (by omega) g (fun d hR => nm_e ?_)⟩
      have er : ((nI k).toInt, (hg k).toInt) = ((k : Int), (hh k : Int) - 1) := by rw [tx, ty]
      have hR' := hR
      rw [er] at hR'
      obtain ⟨s1, s2⟩ := ih_IUs hC (by omega) iu hn hR' (p' := ih_p (upd cx d (nI k)) (upd cy d (hg k))) (fun i hi => ih_pu1 (by omega)) (by rw [ih_pu2, er])
      exact ih _ _ (d + 1) (by omega) (ih_Jcg lo (fun i _ hi => ih_pu1 (by omega)) (fun q => Iff.rfl)) s2 (ih_pug hR.1 gx gy g)
theorem ih_xtr7 {post : SX → Prop} (hQ : ih_Q mm hh lw hg) (K : ∀ (cx cy : Nat → Int32) (c : Nat), ih_HC (ih_S mm hh) c (ih_p cx cy) → post (nn, nI c, A, B, C, lw, hg, cx, cy)) : ∀ (d x : Nat) (cx cy : Nat → Int32) (c : Nat), x + d = 41 → ih_IL mm hh x c (ih_p cx cy) → (∀ i, i < c → ih_g (cx i) ∧ ih_g (cy i)) → wX_traceHull_7 post (d + 1) (nI x) nn (nI c) A B C lw hg cx cy := by
  intro d
  induction d with
  | zero =>
    intro x cx cy c hx il g
    have ex : x = 41 := by omega
    rw [ex] at il
    refine br_t (nI_lt (a := 40) (by omega) (by omega)) ?_
    by_cases z : c = 0
    · rw [z]
      refine br_t rfl (K cx cy 0 ⟨by omega, fun i hi => by omega, fun _ q hq => ?_, fun w => by omega, fun w => by omega, fun i _ w => by omega, fun q w => by omega⟩)
      obtain ⟨x', y', h1, h2, h3, _⟩ := hq
      rcases il with ⟨_, w⟩ | ⟨w, _⟩
      · exact w x' (by omega) (by omega)
      · omega
    · have c41 : c ≤ 41 := by
        rcases il with ⟨w, _⟩ | ⟨_, w, _⟩ <;> omega
      have lo : ih_J (1, 0) 0 (c - 1) (ih_p cx cy) (ih_PL mm hh 41) := by
        rcases il with ⟨w, _⟩ | ⟨_, _, w⟩
        · exact absurd w z
        · exact w
      obtain ⟨xr, iu⟩ := ih_IU0 il (by omega)
      have e1 : nI c - 1 = nI (c - 1) := by
        rw [show (1 : Int32) = nI 1 from rfl, pk_sub (by omega)]
      have i2 := ih_xtr64 hQ K (xr := xr) (show c - 1 ≤ 40 by omega) 41 cx cy c (by omega) lo iu g
      rw [show nI 41 + (-1) = (40 : Int32) by decide] at i2
      exact br_f (nI_ne0 (by omega) (by omega)) (nm_r e1 ⟨42, i2⟩)
  | succ d ih =>
    intro x cx cy c hx il g
    have v : vp_in (nI x) 41 := vp_in_nI (by omega) (by omega)
    have e : (nI x).toNatClampNeg = x := nI_clamp (by omega)
    refine br_f (nI_nlt (a := 40) (by omega) (by omega)) ⟨v, v, ?_⟩
    rw [e]
    by_cases z : hg x < lw x
    · exact br_t z (nm_r (nI_1 x) (ih (x + 1) cx cy c (by omega) (ih_ILe il ((ih_cmp hQ (by omega)).mp z)) g))
    · have hn : mm x < hh x := Classical.byContradiction (fun w => z ((ih_cmp hQ (by omega)).mpr w))
      obtain ⟨q1, q2, q3, q4⟩ := hQ x (by omega)
      have ty : (lw x).toInt = (mm x : Int) := by rw [q1]; exact nI_toInt (by omega)
      have tx : (nI x).toInt = (x : Int) := nI_toInt (by omega)
      have gy : ih_g (lw x) := by
        unfold ih_g
        omega
      have gx : ih_g (nI x) := ih_gn (by omega)
      have c2 : c ≤ x := by
        rcases il with ⟨w, _⟩ | ⟨_, w, _⟩ <;> omega
      refine br_f z ⟨v, ih_xec (f := 0) (by omega) gx gy (by omega) g (fun d' hR => nm_r (nI_1 x) ?_)⟩
      have er : ((nI x).toInt, (lw x).toInt) = ((x : Int), (mm x : Int)) := by rw [tx, ty]
      have hR' := hR
      rw [er] at hR'
      exact ih (x + 1) _ _ (d' + 1) (by omega) (ih_ILs il hn hR' (fun i hi => ih_pu1 (by omega)) (by rw [ih_pu2, er])) (ih_pug hR.1 gx gy g)
theorem ih_xtr {post : SX → Prop} {cc : Int32} {cx cy : Nat → Int32} (hQ : ih_Q mm hh lw hg) (K : ∀ (cx cy : Nat → Int32) (c : Nat), ih_HC (ih_S mm hh) c (ih_p cx cy) → post (nn, nI c, A, B, C, lw, hg, cx, cy)) : wpX_traceHull post (nn, cc, A, B, C, lw, hg, cx, cy) :=
  ⟨42, ih_xtr7 hQ K 41 0 cx cy 0 (by omega) ih_IL0 (fun i h => absurd h (Nat.not_lt_zero i))⟩
end XT
section XR
variable {n : Nat} {cc : Int32} {A B C cx cy : Nat → Int32}
theorem ih_xref2 {post : SX → Prop} (hn : n ≤ 8) (hR : ih_Rg n A B) (K : ∀ (lw hg cx cy : Nat → Int32) (c : Nat) (mm hh : Nat → Nat), ih_XF n A B C lw hg cx cy c mm hh → post (nI n, nI c, A, B, C, lw, hg, cx, cy)) : ∀ (d x : Nat) (lw hg : Nat → Int32), x + d = 41 → (∀ i, i < x → ∃ mh : Nat × Nat, ih_Col n A B C i (lw i) (hg i) mh.1 mh.2) → wX_refresh_2 post (d + 1) (nI x) (nI n) cc A B C lw hg cx cy := by
  intro d
  induction d with
  | zero =>
    intro x lw hg hx h
    refine br_t (nI_lt (a := 40) (by omega) (by omega)) ?_
    have h2 : ∀ i, ∃ mh : Nat × Nat, i ≤ 40 → ih_Col n A B C i (lw i) (hg i) mh.1 mh.2 := fun i => by
      by_cases w : i ≤ 40
      · obtain ⟨mh, q⟩ := h i (by omega)
        exact ⟨mh, fun _ => q⟩
      · exact ⟨(0, 0), fun z => absurd z w⟩
    obtain ⟨F, hF⟩ := Classical.skolem.mp h2
    have hQ : ih_Q (fun x => (F x).1) (fun x => (F x).2) lw hg := fun x hx => ⟨(hF x hx).1, (hF x hx).2.1, (hF x hx).2.2.1, (hF x hx).2.2.2.1⟩
    exact ih_xtr hQ (fun cx cy c hH => K lw hg cx cy c (fun x => (F x).1) (fun x => (F x).2) ⟨fun x hx => hF x hx, hH⟩)
  | succ d ih =>
    intro x lw hg hx h
    refine br_f (nI_nlt (a := 40) (by omega) (by omega)) (ih_xmc (by omega) hn (fun m hm H => nm_r (nI_1 x) (ih (x + 1) _ _ (by omega) (fun i hi => ?_))))
    by_cases e : i = x
    · rw [e, pk_us, pk_us]
      exact ⟨(m, hm), ih_MsE hR (by omega) H⟩
    · rw [pk_un e, pk_un e]
      exact h i (by omega)
theorem ih_xref {post : SX → Prop} {lw hg : Nat → Int32} (hn : n ≤ 8) (hR : ih_Rg n A B) (K : ∀ (lw hg cx cy : Nat → Int32) (c : Nat) (mm hh : Nat → Nat), ih_XF n A B C lw hg cx cy c mm hh → post (nI n, nI c, A, B, C, lw, hg, cx, cy)) : wpX_refresh post (nI n, cc, A, B, C, lw, hg, cx, cy) :=
  ⟨42, ih_xref2 hn hR K 41 0 lw hg (by omega) (fun i h => absurd h (Nat.not_lt_zero i))⟩
end XR

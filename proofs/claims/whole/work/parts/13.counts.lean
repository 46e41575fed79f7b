section YC
variable {nn hs : Int32} {A B C li hu : Nat → Int32}
theorem ih_yco4 {post : Int32 → Prop} {L : Nat} {x1 : Int32} (hL : L ≤ 1681) (K : post (nI (ih_cn (fun k => li k &&& 63 = x1) L))) : ∀ d k, k + d = L → wY_column_4 post x1 nn (nI L) hs A B C li hu (d + 1) (nI (ih_cn (fun k => li k &&& 63 = x1) k)) (nI k) := by
  intro d
  induction d with
  | zero =>
    intro k hk
    have ek : k = L := by omega
    rw [ek]
    exact br_t (nI_le (by omega) (by omega)) K
  | succ d ih =>
    intro k hk
    have v : vp_in (nI k) 1681 := vp_in_nI (by omega) (by omega)
    have e : (nI k).toNatClampNeg = k := nI_clamp (by omega)
    have i2 := ih (k + 1) (by omega)
    refine br_f (nI_ge (by omega) (by omega)) ⟨v, ?_⟩
    rw [e]
    show (li k &&& 63 = x1 → _) ∧ (¬ li k &&& 63 = x1 → _)
    by_cases z : li k &&& 63 = x1
    · rw [ih_cs (P := fun k => li k &&& 63 = x1) z] at i2
      exact br_t z (nm_r (nI_1 _) (nm_r (nI_1 k) i2))
    · rw [ih_cf (P := fun k => li k &&& 63 = x1) z] at i2
      exact br_f z (nm_r (nI_1 k) i2)
theorem ih_ycol {post : Int32 → Prop} {mm hh : Nat → Nat} {x1 : Int32} (hC : ih_C mm hh) (hF : ih_LF mm hh li) (K : post (nI (ih_cn (fun i => ih_F mm hh i ∧ nI (i / 41) = x1) 1681))) : wpY_column post (nn, nI (ih_cn (ih_F mm hh) 1681), hs, A, B, C, li, hu) x1 := by
  have e := ih_ccl (F := ih_F mm hh) (Q := fun k => li k &&& 63 = x1) (Q' := fun i => nI (i / 41) = x1) 1681 (fun i hi hFi => by
    show li (ih_cn (ih_F mm hh) i) &&& 63 = x1 ↔ _
    rw [hF i hi hFi, ih_px (by omega) (by omega)])
  rw [← e] at K
  exact ⟨ih_cn (ih_F mm hh) 1681 + 1, ih_yco4 (ih_cle _ 1681) K (ih_cn (ih_F mm hh) 1681) 0 (Nat.zero_add _)⟩
end YC
theorem i_vc_column {k : Nat} {u : SX} {v : SY} (I : i_Rel k u v) (hk : k + 4 ≤ 2048) (v1 : Int32) : wpX_column (fun r => wpY_column (fun r' => r' = r ∧ i_Rel (k + 4) u v) v v1) u v1 := by
  obtain ⟨n, c, A, B, C, lw, hg, cx, cy, li, hu, mm, hh, hn, hR, hX, hY, rfl, rfl⟩ := I
  have R : i_Rel (k + 4) (nI n, nI c, A, B, C, lw, hg, cx, cy) (nI n, nI (ih_cn (ih_F mm hh) 1681), nI c, A, B, C, li, hu) := ih_rel hn hR hX hY
  have hQ := ih_XQ hX
  have hC := ih_QC hQ
  by_cases a1 : v1 < 0
  · refine br_t a1 (br_t rfl (ih_ycol hC hY.1 ⟨?_, R⟩))
    rw [ih_Kno (R := fun i => nI (i / 41) = v1) (fun i hi w => nI_pos (n := i / 41) (by omega) (by rw [w]; exact a1))]
    rfl
  by_cases a2 : 40 < v1
  · refine br_f a1 (br_t a2 (br_t rfl (ih_ycol hC hY.1 ⟨?_, R⟩)))
    rw [ih_Kno (R := fun i => nI (i / 41) = v1) (fun i hi w => nI_nlt (a := 40) (b := i / 41) (by omega) (by omega) (by rw [w]; exact a2))]
    rfl
  obtain ⟨x, hx, rfl⟩ := nI_of2 (n := 40) (M := 40) (by decide) a1 (Int32.not_lt.mp a2)
  obtain ⟨q1, q2, q3, q4⟩ := hQ x hx
  refine ih_xcol hQ hx (ih_ycol hC hY.1 ⟨?_, R⟩)
  have e : ih_cn (fun i => ih_F mm hh i ∧ nI (i / 41) = nI x) 1681 = ih_cn (fun i => ih_F mm hh i ∧ i / 41 = x) 1681 := ih_ccg 1681 (fun i hi => by
    show ih_F mm hh i ∧ nI (i / 41) = nI x ↔ ih_F mm hh i ∧ i / 41 = x
    rw [nI_eq (by omega) (by omega)])
  rw [e, ih_Kcol hx q3 q4]

/-! whole: the reference, and the case -/
section WHB
variable {σ : ST} {Q : Int32 → ST → Prop}
theorem m_wholeBy (hW : WF (σ.1 0)) {x : Nat} (hx : x < 13) (h : x < 12 → Q (wv (σ.1 0) x) σ) (h12 : x = 12 → Q (σ.2 8) σ) : wp_X7_wholeBy σ (jI x) Q := by
  unfold wp_X7_wholeBy
  have hat : ∀ A : Int32 → Prop, 4 ≤ x → x < 10 → A (σ.1 0 (x - 3)) → vp_in (((jI 1) + jI x) - (jI 4)) 983 ∧ ∀ v : Int32, v = (σ.1 0 (((jI 1) + jI x) - (jI 4)).toNatClampNeg) → A v := fun A g1 g2 g3 => by
    refine m_rd (x - 3) ?_ (by omega) (by decide) g3
    rw [jI_add, jI_sub]
    exact jeq (by omega)
  have hw : ∀ g1 : 4 ≤ x, ∀ g2 : x < 10, wv (σ.1 0) x = σ.1 0 (x - 3) := fun g1 g2 => by
    unfold wv
    rw [if_neg (by omega), if_neg (by omega), if_neg (by omega), if_neg (by omega), if_pos g2]
  refine qeq (by omega) (by omega) (by omega) (by omega) (fun c => ?_) (fun c => ?_)
  · have e : x = 0 := by omega
    subst e
    exact m_rd 0 rfl (by decide) (by decide) (h (by omega))
  refine qeq (by omega) (by omega) (by omega) (by omega) (fun c => ?_) (fun c => ?_)
  · have e : x = 1 := by omega
    subst e
    exact m_sumOf (x := 0) hW (by decide) (h (by omega))
  refine qeq (by omega) (by omega) (by omega) (by omega) (fun c => ?_) (fun c => ?_)
  · have e : x = 2 := by omega
    subst e
    exact m_sumOf (x := 2) hW (by decide) (h (by omega))
  refine qeq (by omega) (by omega) (by omega) (by omega) (fun c => ?_) (fun c => ?_)
  · have e : x = 3 := by omega
    subst e
    exact m_rd 7 rfl (by decide) (by decide) (h (by omega))
  refine qeq (by omega) (by omega) (by omega) (by omega) (fun c => hat _ (by omega) (by omega) (hw (by omega) (by omega) ▸ h (by omega))) (fun c => ?_)
  refine qeq (by omega) (by omega) (by omega) (by omega) (fun c => hat _ (by omega) (by omega) (hw (by omega) (by omega) ▸ h (by omega))) (fun c => ?_)
  refine qeq (by omega) (by omega) (by omega) (by omega) (fun c => hat _ (by omega) (by omega) (hw (by omega) (by omega) ▸ h (by omega))) (fun c => ?_)
  refine qeq (by omega) (by omega) (by omega) (by omega) (fun c => hat _ (by omega) (by omega) (hw (by omega) (by omega) ▸ h (by omega))) (fun c => ?_)
  refine qeq (by omega) (by omega) (by omega) (by omega) (fun c => hat _ (by omega) (by omega) (hw (by omega) (by omega) ▸ h (by omega))) (fun c => ?_)
  refine qeq (by omega) (by omega) (by omega) (by omega) (fun c => hat _ (by omega) (by omega) (hw (by omega) (by omega) ▸ h (by omega))) (fun c => ?_)
  refine qeq (by omega) (by omega) (by omega) (by omega) (fun c => ?_) (fun c => ?_)
  · have e : x = 10 := by omega
    subst e
    exact m_manyNow (h (by omega))
  refine qeq (by omega) (by omega) (by omega) (by omega) (fun c => ?_) (fun c => ?_)
  · have e : x = 11 := by omega
    subst e
    refine m_sumOf (x := 3) hW (by decide) ?_
    have h9 := h (by omega)
    have e9 : wv (σ.1 0) 11 = jI (sA (fun k => if isL (σ.1 0) k then wdt (σ.1 0) k * hgt (σ.1 0) k else 0)) := rfl
    rw [e9, sL_trays hW (fun k => wdt (σ.1 0) k * hgt (σ.1 0) k)] at h9
    exact h9
  exact h12 (by omega)
end WHB
theorem s_whole : st_whole Inv := by
  intro n σ μ v p1 hn hI
  obtain ⟨a, rfl, a1, a2⟩ := jI_ex p1
  have hI' := hI
  obtain ⟨hW, hcl, ⟨l, hR⟩, -, ⟨tk, -, t1, t2, -⟩⟩ := hI'
  unfold wL_whole wx_X6_whole
  refine n_what a1 a2 (by decide) (by decide) ?_
  by_cases hx : 0 ≤ a ∧ a ≤ 12
  · rw [if_pos (by omega)]
    refine x_throw (e := 0) (by decide) (fun q => absurd q (by decide)) (fun q => absurd q (by decide)) (fun q => absurd q (by decide)) (fun _ => ?_)
    obtain ⟨x, rfl⟩ : ∃ x : Nat, a = x := ⟨a.toNat, by omega⟩
    have hm : ∀ z : Int32, (x < 12 → z = wv (μ.1 0) x) → (x = 12 → z = μ.2 8) → wp_X7_whole μ (jI x) (fun r μ1 => wp_X7_thrown μ1 (fun th μ2 => th = jI 0 ∧ (jI 0 = jI 0 → z.toInt64 = r.toInt64) ∧ Inv (n + 1) σ μ2)) := by
      intro z z1 z2
      unfold wp_X7_whole
      refine m_in a1 a2 (by decide) (by decide) (by decide) (by decide) ?_
      rw [show decide (0 ≤ (x : Int) ∧ (x : Int) ≤ 12) = true from bo_t hx]
      refine qf (jne (a := 1) (b := 0) (by decide)) (al ?_)
      rw [zsp_at]
      refine qt (jle (by decide) (by decide) (by decide)) (m_wholeBy (σ := zsp μ 1 (jI 0)) (x := x) (by exact hW) (by omega) (fun c => ?_) (fun c => ?_))
      · unfold wp_X7_thrown
        exact ⟨zsp_at, fun _ => by rw [z1 c]; rfl, hI.next (same_rf σ) (sameM_th μ 1 _ (by decide) (by decide))⟩
      · unfold wp_X7_thrown
        exact ⟨zsp_at, fun _ => by rw [z2 c]; rfl, hI.next (same_rf σ) (sameM_th μ 1 _ (by decide) (by decide))⟩
    refine qeq (by omega) (by omega) (by omega) (by omega) (fun c => ?_) (fun c => ?_)
    · exact hm _ (fun q => absurd q (by omega)) (fun _ => t1.trans t2.symm)
    · exact n_wholeValue hR hW (by omega) (hm _ (fun _ => rfl) (fun q => absurd q (by omega)))
  · rw [if_neg (by omega)]
    refine x_throw (e := 2) (by decide) (fun q => absurd q (by decide)) (fun _ => ?_) (fun q => absurd q (by decide)) (fun q => absurd q (by decide))
    show wp_X7_whole μ _ _
    unfold wp_X7_whole
    refine m_in a1 a2 (by decide) (by decide) (by decide) (by decide) ?_
    rw [show decide (0 ≤ a ∧ a ≤ 12) = false from bo_f hx]
    refine qt rfl (al ?_)
    rw [zsp_at]
    refine qf (jnle (by decide) (by decide) (by decide)) ?_
    unfold wp_X7_thrown
    exact ⟨zsp_at, fun q => absurd q (jne (by decide) (by decide) (by decide) (by decide) (by decide)), hI.next (same_rf σ) (sameM_th μ 1 _ (by decide) (by decide))⟩
theorem last_55 : True := trivial

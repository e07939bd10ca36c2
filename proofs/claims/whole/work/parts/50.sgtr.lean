/-! sign, tray -/
section TRB
variable {σ : ST} {w : Wd} {l : List Nat} {Q : Int32 → ST → Prop} {a : Int}
theorem n_isTray (hR : RK σ w l) (hW : WF w) (a1 : -2147483648 ≤ a) (a2 : a < 2147483648) (h : Q (jI (bI (decide (0 ≤ a ∧ a < nT w)))) σ) : wp_X6_isTray σ (jI a) Q := by
  unfold wp_X6_isTray
  have h1 := hW.1
  have e : σ.2 1 = jI (nT w) := hR.2.2.2.2.1.trans (gwj w 0)
  rw [e, jI_sub]
  refine c_in a1 a2 (by decide) (by decide) (by have := h1.1; omega) (by have := h1.2.1; omega) ⟨nar_b _, ?_⟩
  rw [show decide (0 ≤ a ∧ a ≤ nT w - 1) = decide (0 ≤ a ∧ a < nT w) from decide_eq_decide.mpr (by omega)]
  exact h
theorem m_isTray (hW : WF (σ.1 0)) (a1 : -2147483648 ≤ a) (a2 : a < 2147483648) (h : Q (jI (bI (decide (0 ≤ a ∧ a < nT (σ.1 0))))) σ) : wp_X7_isTray σ (jI a) Q := by
  unfold wp_X7_isTray
  have h1 := hW.1
  refine m_rd 0 rfl (by decide) (by decide) ?_
  rw [gwj (σ.1 0) 0, jI_sub]
  refine m_in a1 a2 (by decide) (by decide) (by have := h1.1; unfold nT at this; omega) (by have := h1.2.1; unfold nT at this; omega) ⟨nar_b _, ?_⟩
  rw [show decide (0 ≤ a ∧ a ≤ gw (σ.1 0) 0 - 1) = decide (0 ≤ a ∧ a < nT (σ.1 0)) from decide_eq_decide.mpr (by unfold nT; omega)]
  exact h
end TRB
set_option maxHeartbeats 1000000 in
theorem s_sign : st_sign Inv := by
  intro n σ μ v p1 p2 hn hI
  obtain ⟨a, rfl, a1, a2⟩ := jI_ex p1
  obtain ⟨x, rfl, x1, x2⟩ := jI_ex p2
  have hI' := hI
  obtain ⟨hW, hcl, ⟨l, hR⟩, -⟩ := hI'
  have hth : ∀ e : Int, (e = 1 ∨ e = 2) → ((¬ (0 ≤ a ∧ a ≤ 15) ∧ e = 1) ∨ ((0 ≤ a ∧ a ≤ 15) ∧ ¬ (0 ≤ x ∧ x ≤ 3) ∧ e = 2)) → wp_X7_sign μ (jI a) (jI x) (fun r μ1 => wp_X7_thrown μ1 (fun th μ2 => th = jI e ∧ (jI e = jI 0 → v = r.toInt64) ∧ Inv (n + 1) σ μ2)) := by
    intro e he hc
    unfold wp_X7_sign
    refine m_in a1 a2 (by decide) (by decide) (by decide) (by decide) (qb (fun d => ?_) (fun d => ?_))
    · have d := of_decide_eq_false d
      have e2 : e = 1 := by omega
      subst e2
      refine al ?_
      rw [zsp_at]
      refine qf (jnle (by decide) (by decide) (by decide)) ?_
      unfold wp_X7_thrown
      exact ⟨zsp_at, fun q => absurd q (jne (by decide) (by decide) (by decide) (by decide) (by decide)), hI.next (same_rf σ) (sameM_th μ 1 _ (by decide) (by decide))⟩
    have d := of_decide_eq_true d
    refine m_in x1 x2 (by decide) (by decide) (by decide) (by decide) (qb (fun d1 => ?_) (fun d1 => ?_))
    · have d1 := of_decide_eq_false d1
      have e2 : e = 2 := by omega
      subst e2
      refine al ?_
      rw [zsp_at]
      refine qf (jnle (by decide) (by decide) (by decide)) ?_
      unfold wp_X7_thrown
      exact ⟨zsp_at, fun q => absurd q (jne (by decide) (by decide) (by decide) (by decide) (by decide)), hI.next (same_rf σ) (sameM_th μ 1 _ (by decide) (by decide))⟩
    · have d1 := of_decide_eq_true d1
      exfalso
      omega
  unfold wL_sign wx_X6_sign wp_X6_isSign
  refine c_in a1 a2 (by decide) (by decide) (by decide) (by decide) ⟨nar_b _, qb (fun d => ?_) (fun d => ?_)⟩
  · have d := of_decide_eq_false d
    exact x_throw (e := 1) (by decide) (fun _ => hth 1 (Or.inl rfl) (Or.inl ⟨d, rfl⟩)) (fun q => absurd q (by decide)) (fun q => absurd q (by decide)) (fun q => absurd q (by decide))
  have d := of_decide_eq_true d
  refine x_throw (e := 0) (by decide) (fun q => absurd q (by decide)) (fun q => absurd q (by decide)) (fun q => absurd q (by decide)) (fun _ => ?_)
  refine n_what x1 x2 (by decide) (by decide) ?_
  by_cases hx : 0 ≤ x ∧ x ≤ 3
  · rw [if_pos (by omega)]
    refine x_throw (by decide) (fun q => absurd q (by decide)) (fun q => absurd q (by decide)) (fun q => absurd q (by decide)) (fun _ => ?_)
    obtain ⟨y, rfl⟩ : ∃ y : Nat, x = y := ⟨x.toNat, by omega⟩
    obtain ⟨s, rfl⟩ : ∃ s : Nat, a = s := ⟨a.toNat, by omega⟩
    refine n_signValue hR hW (by omega) (by omega) ?_
    unfold wp_X7_sign
    refine m_in a1 a2 (by decide) (by decide) (by decide) (by decide) ?_
    rw [show decide (0 ≤ (s : Int) ∧ (s : Int) ≤ 15) = true from bo_t d]
    refine qf (jne (a := 1) (b := 0) (by decide)) (m_in x1 x2 (by decide) (by decide) (by decide) (by decide) ?_)
    rw [show decide (0 ≤ (y : Int) ∧ (y : Int) ≤ 3) = true from bo_t hx]
    refine qf (jne (a := 1) (b := 0) (by decide)) (al ?_)
    rw [zsp_at]
    refine qt (jle (by decide) (by decide) (by decide)) (m_signBy (σ := zsp μ 1 (jI 0)) (s := s) (x := y) (by exact hW) (by omega) (by omega) ?_)
    unfold wp_X7_thrown
    exact ⟨zsp_at, fun _ => rfl, hI.next (same_rf σ) (sameM_th μ 1 _ (by decide) (by decide))⟩
  · rw [if_neg (by omega)]
    exact x_throw (e := 2) (by decide) (fun q => absurd q (by decide)) (fun _ => hth 2 (Or.inr rfl) (Or.inr ⟨d, hx, rfl⟩)) (fun q => absurd q (by decide)) (fun q => absurd q (by decide))
set_option maxHeartbeats 1000000 in
theorem s_tray : st_tray Inv := by
  intro n σ μ v p1 p2 hn hI
  obtain ⟨a, rfl, a1, a2⟩ := jI_ex p1
  obtain ⟨x, rfl, x1, x2⟩ := jI_ex p2
  have hI' := hI
  obtain ⟨hW, hcl, ⟨l, hR⟩, -⟩ := hI'
  have hth : ∀ e : Int, (e = 1 ∨ e = 2) → ((¬ (0 ≤ a ∧ a < nT (μ.1 0)) ∧ e = 1) ∨ ((0 ≤ a ∧ a < nT (μ.1 0)) ∧ ¬ (0 ≤ x ∧ x ≤ 3) ∧ e = 2)) → wp_X7_tray μ (jI a) (jI x) (fun r μ1 => wp_X7_thrown μ1 (fun th μ2 => th = jI e ∧ (jI e = jI 0 → v = r.toInt64) ∧ Inv (n + 1) σ μ2)) := by
    intro e he hc
    unfold wp_X7_tray
    refine m_isTray hW a1 a2 (qb (fun d => ?_) (fun d => ?_))
    · have d := of_decide_eq_false d
      have e2 : e = 1 := by omega
      subst e2
      refine al ?_
      rw [zsp_at]
      refine qf (jnle (by decide) (by decide) (by decide)) ?_
      unfold wp_X7_thrown
      exact ⟨zsp_at, fun q => absurd q (jne (by decide) (by decide) (by decide) (by decide) (by decide)), hI.next (same_rf σ) (sameM_th μ 1 _ (by decide) (by decide))⟩
    have d := of_decide_eq_true d
    refine m_in x1 x2 (by decide) (by decide) (by decide) (by decide) (qb (fun d1 => ?_) (fun d1 => ?_))
    · have d1 := of_decide_eq_false d1
      have e2 : e = 2 := by omega
      subst e2
      refine al ?_
      rw [zsp_at]
      refine qf (jnle (by decide) (by decide) (by decide)) ?_
      unfold wp_X7_thrown
      exact ⟨zsp_at, fun q => absurd q (jne (by decide) (by decide) (by decide) (by decide) (by decide)), hI.next (same_rf σ) (sameM_th μ 1 _ (by decide) (by decide))⟩
    · have d1 := of_decide_eq_true d1
      exfalso
      omega
  unfold wL_tray wx_X6_tray
  refine n_isTray hR hW a1 a2 (qb (fun d => ?_) (fun d => ?_))
  · have d := of_decide_eq_false d
    exact x_throw (e := 1) (by decide) (fun _ => hth 1 (Or.inl rfl) (Or.inl ⟨d, rfl⟩)) (fun q => absurd q (by decide)) (fun q => absurd q (by decide)) (fun q => absurd q (by decide))
  have d := of_decide_eq_true d
  refine x_throw (e := 0) (by decide) (fun q => absurd q (by decide)) (fun q => absurd q (by decide)) (fun q => absurd q (by decide)) (fun _ => ?_)
  refine n_what x1 x2 (by decide) (by decide) ?_
  by_cases hx : 0 ≤ x ∧ x ≤ 3
  · rw [if_pos (by omega)]
    refine x_throw (by decide) (fun q => absurd q (by decide)) (fun q => absurd q (by decide)) (fun q => absurd q (by decide)) (fun _ => ?_)
    obtain ⟨y, rfl⟩ : ∃ y : Nat, x = y := ⟨x.toNat, by omega⟩
    obtain ⟨s, rfl⟩ : ∃ s : Nat, a = s := ⟨a.toNat, by omega⟩
    refine n_trayValue hR hW d.2 (by omega) ?_
    unfold wp_X7_tray
    refine m_isTray hW a1 a2 ?_
    rw [show decide (0 ≤ (s : Int) ∧ (s : Int) < nT (μ.1 0)) = true from bo_t d]
    refine qf (jne (a := 1) (b := 0) (by decide)) (m_in x1 x2 (by decide) (by decide) (by decide) (by decide) ?_)
    rw [show decide (0 ≤ (y : Int) ∧ (y : Int) ≤ 3) = true from bo_t hx]
    refine qf (jne (a := 1) (b := 0) (by decide)) (al ?_)
    rw [zsp_at]
    refine qt (jle (by decide) (by decide) (by decide)) (m_trayBy (σ := zsp μ 1 (jI 0)) (t := s) (x := y) (by exact hW) (by exact d.2) (by omega) ?_)
    unfold wp_X7_thrown
    exact ⟨zsp_at, fun _ => rfl, hI.next (same_rf σ) (sameM_th μ 1 _ (by decide) (by decide))⟩
  · rw [if_neg (by omega)]
    exact x_throw (e := 2) (by decide) (fun q => absurd q (by decide)) (fun _ => hth 2 (Or.inr rfl) (Or.inr ⟨d, hx, rfl⟩)) (fun q => absurd q (by decide)) (fun q => absurd q (by decide))
theorem last_50 : True := trivial

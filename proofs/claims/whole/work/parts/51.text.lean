/-! type, clearCommands, street -/
theorem Inv.txt {n : Nat} {σ μ σ' μ' : ST} (h : Inv n σ μ) (hr : ∀ r : Nat, r < 50 → σ'.1 r = σ.1 r) (hc : ∀ c : Nat, c ≤ 41 → σ'.2 c = σ.2 c) (m1 : μ'.1 0 = μ.1 0) (m2 : μ'.1 1 = μ.1 1) (m4 : μ'.2 0 = μ.2 0) (hT : TX σ' μ') : Inv (n + 1) σ' μ' := by
  obtain ⟨h1, h2, ⟨l, h3⟩, ⟨f, m, a1, a2, a3, a4, a5, a6⟩, -⟩ := h
  refine ⟨by rw [m1]; exact h1, by rw [m1]; push_cast; omega, ⟨l, by rw [m1]; exact RC_congr h3 (fun j hj => hr j (by omega)) (fun j hj => hc j (by omega))⟩, ⟨f, m, a1, a2, (hc 40 (by decide)).trans a3, (hc 41 (by decide)).trans a4, m4.trans a5, fun i hi => ?_⟩, hT⟩
  rw [m2]
  obtain ⟨c1, c2, l', c3⟩ := a6 i hi
  exact ⟨c1, by push_cast; omega, l', RC_congr c3 (fun j hj => hr _ (by omega)) (fun j hj => hc _ (by omega))⟩
theorem s_clearCommands : st_clearCommands Inv := by
  intro n σ μ hn hI
  obtain ⟨k, b1, b2, b3, b4⟩ := hI.2.2.2.2
  unfold wp_X6_clearCommands wp_X0_empty wp_X7_clearCommands
  refine al (al (al ?_))
  refine ⟨by rw [b2]; exact b3.symm, hI.txt (fun r _ => rfl) (fun c hc => zsp_nq (by omega)) rfl rfl rfl ⟨0, by decide, zsp_at, zsp_at, fun i hi => absurd hi (Nat.not_lt_zero i)⟩⟩
theorem s_type : st_type Inv := by
  intro n σ μ v p1 hn hI
  obtain ⟨a, rfl, a1, a2⟩ := jI_ex p1
  obtain ⟨k, b1, b2, b3, b4⟩ := hI.2.2.2.2
  unfold wL_type wx_X6_type
  refine c_in a1 a2 (by decide) (by decide) (by decide) (by decide) (qb (fun d => ?_) (fun d => ?_))
  · refine x_throw (e := 2) (by decide) (fun q => absurd q (by decide)) (fun _ => ?_) (fun q => absurd q (by decide)) (fun q => absurd q (by decide))
    show wp_X7_type μ _ _
    unfold wp_X7_type
    refine m_in a1 a2 (by decide) (by decide) (by decide) (by decide) ?_
    rw [d]
    refine qt rfl (al ?_)
    rw [zsp_at]
    refine qf (jnle (by decide) (by decide) (by decide)) ?_
    unfold wp_X7_thrown
    exact ⟨zsp_at, fun q => absurd q (jne (by decide) (by decide) (by decide) (by decide) (by decide)), hI.next (same_rf σ) (sameM_th μ 1 _ (by decide) (by decide))⟩
  have d' := of_decide_eq_true d
  refine x_throw (e := 0) (by decide) (fun q => absurd q (by decide)) (fun q => absurd q (by decide)) (fun q => absurd q (by decide)) (fun _ => ?_)
  rw [b2]
  refine qle (by decide) (by decide) (by omega) (by omega) (fun c => ?_) (fun c => ?_)
  · refine x_throw (e := 3) (by decide) (fun q => absurd q (by decide)) (fun q => absurd q (by decide)) (fun _ => ?_) (fun q => absurd q (by decide))
    show wp_X7_type μ _ _
    unfold wp_X7_type
    refine m_in a1 a2 (by decide) (by decide) (by decide) (by decide) ?_
    rw [d]
    refine qf (jne (a := 1) (b := 0) (by decide)) ?_
    rw [b3]
    refine qt (jeq (by omega)) (al ?_)
    rw [zsp_at]
    refine qf (jnle (by decide) (by decide) (by decide)) ?_
    unfold wp_X7_thrown
    exact ⟨zsp_at, fun q => absurd q (jne (by decide) (by decide) (by decide) (by decide) (by decide)), hI.next (same_rf σ) (sameM_th μ 1 _ (by decide) (by decide))⟩
  · refine x_throw (e := 0) (by decide) (fun q => absurd q (by decide)) (fun q => absurd q (by decide)) (fun q => absurd q (by decide)) (fun _ => ?_)
    unfold wp_X0_append
    rw [b2, cs σ 50 k (jI a) (by show k < 150; omega)]
    refine al (al ?_)
    show wp_X7_type μ _ _
    unfold wp_X7_type
    refine m_in a1 a2 (by decide) (by decide) (by decide) (by decide) ?_
    rw [d]
    refine qf (jne (a := 1) (b := 0) (by decide)) ?_
    rw [b3]
    refine qf (jne (by omega)) (al ?_)
    rw [zsp_at]
    refine qt (jle (by decide) (by decide) (by decide)) ?_
    refine m_wr k (show (zsp μ 1 (jI 0)).2 8 = jI k from b3) (by omega) (by decide) (al ?_)
    unfold wp_X7_thrown
    have e1 : (zrp (zsp μ 1 (jI 0)) 3 k (jI a)).2 8 = jI (k : Nat) := b3
    have e2 : (zrp σ 50 k (jI a)).2 42 = jI (k : Nat) := b2
    rw [e1, e2, jI_add, zsp_at, zsp_at]
    refine ⟨?_, fun _ => rfl, hI.txt (fun r hr => ?_) (fun c hc => ?_) rfl rfl rfl ⟨k + 1, by omega, zsp_at, zsp_at, fun i hi => ?_⟩⟩
    · exact (zsp_nq (by decide)).trans (show (zsp μ 1 (jI 0)).2 1 = jI 0 from zsp_at)
    · show (if r = 50 then _ else σ.1 r) = σ.1 r
      rw [if_neg (by omega)]
    · exact zsp_nq (by omega)
    · have e3 : (zrp σ 50 k (jI a)).1 50 = upd (σ.1 50) k (jI a) := by simp [zrp]
      have e4 : (zrp (zsp μ 1 (jI 0)) 3 k (jI a)).1 3 = upd (μ.1 3) k (jI a) := by simp [zrp, zsp]
      show (zrp σ 50 k (jI a)).1 50 i = (zrp (zsp μ 1 (jI 0)) 3 k (jI a)).1 3 i ∧ 0 ≤ ((zrp (zsp μ 1 (jI 0)) 3 k (jI a)).1 3 i).toInt ∧ ((zrp (zsp μ 1 (jI 0)) 3 k (jI a)).1 3 i).toInt ≤ 127
      rw [e3, e4]
      unfold upd
      by_cases hik : i = k
      · rw [if_pos hik, if_pos hik, jI_toInt a1 a2]
        exact ⟨rfl, d'.1, d'.2⟩
      · rw [if_neg hik, if_neg hik]
        exact b4 i (by omega)
theorem last_51 : True := trivial

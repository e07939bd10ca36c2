/-! use, as the law calls it -/
set_option maxHeartbeats 1000000 in
theorem s_use : st_use Inv := by
  intro n σ μ v p1 p2 p3 hn hI
  obtain ⟨a, rfl, a1, a2⟩ := jI_ex p1
  obtain ⟨b, rfl, b1, b2⟩ := jI_ex p2
  obtain ⟨c, rfl, c1, c2⟩ := jI_ex p3
  have hI' := hI
  obtain ⟨hW, hcl, ⟨l, hR⟩, -⟩ := hI'
  have hf := flt_b a b c
  unfold wL_use wx_X6_use wp_X6_faultOfUse
  refine n_faultOfLetter a1 a2 b1 b2 c1 c2 ?_
  refine qeq (by omega) (by omega) (by decide) (by decide) (fun e => ?_) (fun e => ?_)
  · have hk := ltn_lt e
    refine n_letterNumber e (n_find hR hW hk (fun σ' ru t s x tk lv g1 g2 g3 g4 => ?_))
    have hb := g3.b
    have hI2 : Inv n σ' μ := hI.keep (same_45 g1 g2) ⟨rfl, rfl, rfl, rfl, rfl⟩
    have hR2 : RK σ' (μ.1 0) l := hR.cg9 g1 g2
    have hm : ∀ Q' : Int32 → ST → Prop, (∀ u : ST, sameM μ u → u.2 2 = jI ru → ((u.2 2 = (jI (-1)) → (∀ s8 : ST, s8 = zsp u 1 (jI 3) → (((s8.2 1) ≤ (jI 0) → wp_X7_saves s8 (fun s9 => wp_X7_uses s9 (jI (ltn a b c : Nat)) (fun r4 s10 => Q' r4 s10))) ∧ (¬ (s8.2 1) ≤ (jI 0) → Q' (jI 0) s8)))) ∧ (¬ u.2 2 = (jI (-1)) → (∀ s5 : ST, s5 = zsp u 1 (jI 0) → (((s5.2 1) ≤ (jI 0) → wp_X7_saves s5 (fun s6 => wp_X7_uses s6 (jI (ltn a b c : Nat)) (fun r3 s7 => Q' r3 s7))) ∧ (¬ (s5.2 1) ≤ (jI 0) → Q' (jI 0) s5)))))) → wp_X7_use μ (jI a) (jI b) (jI c) Q' := by
      intro Q' hQ
      unfold wp_X7_use
      refine m_bars a1 a2 b1 b2 c1 c2 (al ?_)
      rw [zsp_at, e]
      refine qt (jle (by decide) (by decide) (by decide)) (m_number e (m_looks (μ := zsp μ 1 (jI 0)) (by exact hW) hk (fun u ru' t' s' x' tk' lv' q1 q2 q3 q4 => ?_)))
      obtain ⟨u1, -, -, -⟩ := IsPl.u hW g3 q3
      exact hQ u ((sameM_th μ 1 _ (by decide) (by decide)).trans (sameM_lk q1 q2)) (by rw [u1]; exact q4.1)
    rw [g4.1]
    refine qeq (by omega) (by omega) (by decide) (by decide) (fun d => ?_) (fun d => ?_)
    · refine x_throw (e := 3) (by decide) (fun q => absurd q (by decide)) (fun q => absurd q (by decide)) (fun _ => ?_) (fun q => absurd q (by decide))
      show wp_X7_use μ _ _ _ _
      refine hm _ (fun u hs h2 => qt (by rw [h2, d]) (al ?_))
      rw [zsp_at]
      refine qf (jnle (by decide) (by decide) (by decide)) ?_
      unfold wp_X7_thrown
      exact ⟨zsp_at, fun q => absurd q (jne (by decide) (by decide) (by decide) (by decide) (by decide)), hI2.next (same_rf σ') (hs.trans (sameM_th _ 1 _ (by decide) (by decide)))⟩
    · refine x_throw (e := 0) (by decide) (fun q => absurd q (by decide)) (fun q => absurd q (by decide)) (fun q => absurd q (by decide)) (fun _ => ?_)
      refine op_save hI2 (fun σ1 k1 k2 hs => n_letterNumber e ?_)
      have hR1 : RK σ1 (μ.1 0) l := RC_congr hR2 (fun j hj => k1 j (by omega)) (fun j hj => k2 j (by omega))
      have hC1 : PC σ1 ru t s x tk lv := by
        obtain ⟨d1, d2, d3, d4, d5⟩ := g4
        refine ⟨(k2 45 (by decide)).trans d1, fun q1 q2 => ?_, fun q => (k2 46 (by decide)).trans (d3 q), (k2 48 (by decide)).trans d4, (k2 49 (by decide)).trans d5⟩
        rw [k2 46 (by decide), k2 47 (by decide)]
        exact d2 q1 q2
      refine both_use (μ := μ) hW ⟨hcl.1, by omega⟩ hk hR1 g3 hC1 d (fun σ2 h45 huse => ?_)
      show wp_X7_use μ _ _ _ _
      refine hm _ (fun u hsu h2 => qf (by rw [h2]; exact jne d) (al ?_))
      rw [zsp_at]
      refine qt (jle (by decide) (by decide) (by decide)) (hs _ (hsu.trans (sameM_th _ 1 _ (by decide) (by decide))) _ (fun μ1 q1 q2 hu ht => ?_))
      have e0 : μ1.1 0 = μ.1 0 := (q1 0 (by decide)).trans hsu.1
      refine huse μ1 _ e0 (fun μ' m1 hcore => ?_)
      unfold wp_X7_thrown
      refine ⟨m1.trans ((q2 1 (by decide)).trans zsp_at), fun _ => by rw [h45], Inv.core hu ht (by rw [e0]; exact hcl) (by decide) hcore⟩
  · have hth : ∀ e : Int, (e = 1 ∨ e = 2) → flt a b c = e → wp_X7_use μ (jI a) (jI b) (jI c) (fun r μ1 => wp_X7_thrown μ1 (fun th μ2 => th = jI e ∧ (jI e = jI 0 → v = r.toInt64) ∧ Inv (n + 1) σ μ2)) := by
      intro e he h9
      unfold wp_X7_use
      refine m_bars a1 a2 b1 b2 c1 c2 (al ?_)
      rw [zsp_at, h9]
      refine qf (jnle (by omega)) ?_
      unfold wp_X7_thrown
      exact ⟨zsp_at, fun q => absurd q (jne (by omega)), hI.next (same_rf σ) (sameM_th μ 1 _ (by decide) (by decide))⟩
    refine x_throw hf (fun q => hth 1 (Or.inl rfl) q) (fun q => hth 2 (Or.inr rfl) q) (fun q => ?_) (fun q => absurd q e)
    exfalso
    unfold flt at q
    split at q
    · split at q <;> omega
    · omega
theorem last_84 : True := trivial

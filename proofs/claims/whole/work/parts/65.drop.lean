/-! drop; letters that go one after the other -/
theorem core_goes {σ μ σ' μ' : ST} {l : List Nat} {S : Nat → Bool} (hW : WF (μ.1 0)) (hR : RK σ (μ.1 0) l) (ha : AwayS σ.1 σ'.1 σ.2 σ'.2 l S) (hq : ∀ q : Nat, q ≠ 0 → μ'.1 q = μ.1 q) (h2 : μ'.2 = μ.2) (hg : GoneS (μ.1 0) (μ'.1 0) S) (hS : ∀ k, k < 144 → S k = true → isP (μ.1 0) k = true) : Core 0 σ μ σ' μ' := by
  refine ⟨⟨fun r hr => ha.1 r (by omega) (by omega), fun c h1 _ => ha.2.2.2.2.2 c (by omega) (by omega)⟩, ⟨fun r h1 _ => hq r h1, fun c _ => by rw [h2]⟩, hg.WF hW, ⟨_, hR.gone hW ha hg hS⟩, ?_⟩
  rw [hg.g (by decide) (by decide) (by decide)]
  omega
theorem RK.tk {σ : ST} {w : Wd} {l : List Nat} {k : Nat} {Q : ST → Prop} (hR : RK σ w l) (hk : k < 144) (hp : isP w k = true) (h : ∀ σ' : ST, AwayS σ.1 σ'.1 σ.2 σ'.2 l (fun z => z == k) → Q σ') : wp_X4_takeAway σ (jI k) Q :=
  n_takeAway hR.2.2.1.1 (fun k hk => ((hR.2.2.1.2.2.1 k).mp hk).1) hR.2.2.1.2.1 hR.2.2.1.len hR.n ((hR.2.2.1.2.2.1 k).mpr ⟨hk, hp⟩) h
theorem n_dropLetter {σ : ST} {w : Wd} {l : List Nat} {k : Nat} {Q : Int32 → ST → Prop} (hR : RK σ w l) (hk : k < 144) (hp : isP w k = true) (h : ∀ σ' : ST, AwayS σ.1 σ'.1 σ.2 σ'.2 l (fun z => z == k) → Q (w (119 + 6 * k + 5)) σ') : wp_X4_dropLetter σ (jI k) Q := by
  unfold wp_X4_dropLetter
  refine alE ((cg σ 8 k hk).trans ((hR.2.1 k hk).2.2 hp).2.2) ?_
  exact hR.tk hk hp h
theorem eqS {w : Wd} {k : Nat} (hp : isP w k = true) : ∀ z, z < 144 → (z == k) = true → isP w z = true := fun z _ hz => by
  rw [beq_iff_eq.mp hz]
  exact hp
set_option maxHeartbeats 1000000 in
theorem s_drop : st_drop Inv := by
  intro n σ μ v p1 p2 p3 hn hI
  obtain ⟨a, rfl, a1, a2⟩ := jI_ex p1
  obtain ⟨b, rfl, b1, b2⟩ := jI_ex p2
  obtain ⟨c, rfl, c1, c2⟩ := jI_ex p3
  have hI' := hI
  obtain ⟨hW, hcl, ⟨l, hR⟩, -⟩ := hI'
  have hf := flt_b a b c
  unfold wL_drop wx_X6_drop wp_X6_faultOfDrop
  refine n_faultOfLetter a1 a2 b1 b2 c1 c2 ?_
  refine qeq (by omega) (by omega) (by decide) (by decide) (fun e => ?_) (fun e => ?_)
  · have hk := ltn_lt e
    refine n_letterNumber e (n_isThere hR hW hk (qb (fun p => ?_) (fun p => ?_)))
    · refine x_throw (e := 3) (by decide) (fun q => absurd q (by decide)) (fun q => absurd q (by decide)) (fun _ => ?_) (fun q => absurd q (by decide))
      show wp_X7_drop μ _ _ _ _
      unfold wp_X7_drop
      refine m_bars a1 a2 b1 b2 c1 c2 (al ?_)
      rw [zsp_at, e]
      refine qt (jle (by decide) (by decide) (by decide)) (m_number e (m_is hk (qb (fun p2 => al ?_) (fun p2 => ?_))))
      · rw [zsp_at]
        refine qf (jnle (by decide) (by decide) (by decide)) ?_
        unfold wp_X7_thrown
        exact ⟨zsp_at, fun q => absurd q (jne (by decide) (by decide) (by decide) (by decide) (by decide)), hI.next (same_rf σ) ((sameM_th μ 1 _ (by decide) (by decide)).trans (sameM_th _ 1 _ (by decide) (by decide)))⟩
      · exact absurd (p.symm.trans p2) (by decide)
    · refine x_throw (e := 0) (by decide) (fun q => absurd q (by decide)) (fun q => absurd q (by decide)) (fun q => absurd q (by decide)) (fun _ => ?_)
      refine op_save hI (fun σ1 k1 k2 hs => n_letterNumber e ?_)
      have hR1 : RK σ1 (μ.1 0) l := RC_congr hR (fun j hj => k1 j (by omega)) (fun j hj => k2 j (by omega))
      refine n_dropLetter hR1 hk p (fun σ2 ha => ?_)
      show wp_X7_drop μ _ _ _ _
      unfold wp_X7_drop
      refine m_bars a1 a2 b1 b2 c1 c2 (al ?_)
      rw [zsp_at, e]
      refine qt (jle (by decide) (by decide) (by decide)) (m_number e (m_is hk (qb (fun p2 => ?_) (fun p2 => al ?_))))
      · exact absurd (p2.symm.trans p) (by decide)
      · rw [zsp_at]
        refine qt (jle (by decide) (by decide) (by decide)) (hs _ ((sameM_th μ 1 _ (by decide) (by decide)).trans (sameM_th _ 1 _ (by decide) (by decide))) _ (fun μ1 q1 q2 hu ht => ?_))
        have e0 : μ1.1 0 = μ.1 0 := q1 0 (by decide)
        refine m_goes (by rw [e0]; exact hW.2.2.2.2.2) hk (fun μ2 g1 g2 g3 => m_of (f := 5) hk (by decide) ?_)
        unfold wp_X7_thrown
        refine ⟨?_, fun _ => ?_, Inv.core hu ht (by rw [e0]; exact hcl) (by decide) (core_goes (l := l) (by rw [e0]; exact hW) (by rw [e0]; exact hR1) ha g1 g2 g3 (by rw [e0]; exact eqS p))⟩
        · rw [g2]
          exact (q2 1 (by decide)).trans zsp_at
        · rw [g3.o (by omega) (by omega) (by omega), e0]
  · have hth : ∀ e : Int, (e = 1 ∨ e = 2) → flt a b c = e → wp_X7_drop μ (jI a) (jI b) (jI c) (fun r μ1 => wp_X7_thrown μ1 (fun th μ2 => th = jI e ∧ (jI e = jI 0 → v = r.toInt64) ∧ Inv (n + 1) σ μ2)) := by
      intro e he h9
      unfold wp_X7_drop
      refine m_bars a1 a2 b1 b2 c1 c2 (al ?_)
      rw [zsp_at, h9]
      refine qf (jnle (by omega)) ?_
      unfold wp_X7_thrown
      exact ⟨zsp_at, fun q => absurd q (jne (by omega)), hI.next (same_rf σ) (sameM_th μ 1 _ (by decide) (by decide))⟩
    refine x_throw hf (fun q => hth 1 (Or.inl rfl) q) (fun q => hth 2 (Or.inr rfl) q) (fun q => ?_) (fun q => absurd q e)
    exfalso
    unfold flt at q
    split at q
    · split at q <;> omega
    · omega
theorem cnt_or (l : List Nat) (p q : Nat → Bool) : l.countP (fun z => p z || q z) = l.countP p + (l.filter (fun z => !p z)).countP q := by
  induction l with
  | nil => rfl
  | cons x l ih =>
    rw [List.countP_cons, List.countP_cons, ih]
    cases hp : p x
    · rw [List.filter_cons_of_pos (by simp [hp]), List.countP_cons]
      cases hq : q x <;> simp [hp, hq] <;> omega
    · rw [List.filter_cons_of_neg (by simp [hp])]
      simp [hp]
      omega
theorem flt_or (l : List Nat) (p q : Nat → Bool) : (l.filter (fun z => !p z)).filter (fun z => !q z) = l.filter (fun z => !(p z || q z)) := by
  rw [List.filter_filter]
  refine List.filter_congr (fun z _ => ?_)
  cases p z <;> cases q z <;> rfl
theorem AwayS.z (r : Nat → Nat → Int32) (c : Nat → Int32) (l : List Nat) (S : Nat → Bool) (h0 : ∀ z, S z = false) (hl : ∀ i k : Nat, l[i]? = some k → r 9 i = jI k) (hc : c 0 = jI (l.length : Nat)) : AwayS r r c c l S := by
  have e : l.filter (fun z => !S z) = l := List.filter_eq_self.mpr (fun z _ => by rw [h0]; rfl)
  have e2 : l.countP S = 0 := List.countP_eq_zero.mpr (fun z _ q => by rw [h0] at q; cases q)
  refine ⟨fun _ _ _ => rfl, fun k hk => ?_, by rw [e]; exact hl, by rw [e]; exact hc, ?_, fun _ _ _ => rfl⟩
  · rw [h0, if_neg (by decide)]
  · rw [e2]
    exact (add0 _).symm
theorem AwayS.trans {r r1 r2 : Nat → Nat → Int32} {c c1 c2 : Nat → Int32} {l : List Nat} {S T : Nat → Bool} (h1 : AwayS r r1 c c1 l S) (h2 : AwayS r1 r2 c1 c2 (l.filter (fun z => !S z)) T) : AwayS r r2 c c2 l (fun z => S z || T z) := by
  obtain ⟨a1, a2, a3, a4, a5, a6⟩ := h1
  obtain ⟨b1, b2, b3, b4, b5, b6⟩ := h2
  rw [flt_or] at b3 b4
  refine ⟨fun q h3 h9 => (b1 q h3 h9).trans (a1 q h3 h9), fun k hk => ?_, b3, b4, ?_, fun j h0 h6 => (b6 j h0 h6).trans (a6 j h0 h6)⟩
  · rw [b2 k hk, a2 k hk]
    cases hs : S k <;> cases ht : T k <;> simp [hs, ht]
  · rw [b5, a5, cnt_or, jI_of (c 6), jI_add, jI_add, jI_add]
    exact jeq (by push_cast; omega)
theorem GoneS.z (w : Wd) (S : Nat → Bool) (h0 : ∀ z, S z = false) (hf : WFf w) : GoneS w w S := by
  obtain ⟨f1, f2, f3, f4, f5⟩ := hf
  have e2 : (List.range 144).countP S = 0 := List.countP_eq_zero.mpr (fun z _ q => by rw [h0] at q; cases q)
  refine ⟨fun _ _ _ _ => rfl, fun k _ hk => ?_, ?_, ?_, f1, f2, f3⟩
  · rw [h0] at hk
    cases hk
  · rw [e2]
    exact (add0 _).symm
  · exact (List.filter_eq_self.mpr (fun z _ => by rw [h0]; rfl)).symm
theorem GoneS.trans {w w1 w2 : Wd} {S T : Nat → Bool} (h1 : GoneS w w1 S) (h2 : GoneS w1 w2 T) (hd : ∀ z, S z = true → T z = false) : GoneS w w2 (fun z => S z || T z) := by
  have hc : (List.range 144).countP (fun z => S z || T z) = (List.range 144).countP S + (List.range 144).countP T := by
    rw [cnt_or]
    congr 1
    rw [List.countP_filter]
    refine List.countP_congr (fun z _ => ?_)
    cases hS : S z
    · simp
    · simp [hd z hS]
  obtain ⟨a1, a2, a3, a4, a5, a6, a7⟩ := id h1
  obtain ⟨b1, b2, b3, b4, b5, b6, b7⟩ := id h2
  refine ⟨fun j h5 hj hn => ?_, fun k hk hs => ?_, ?_, ?_, b5, b6, b7⟩
  · rw [b1 j h5 hj (fun k hk ht => hn k hk (by show (S k || T k) = true; rw [ht, Bool.or_true])), a1 j h5 hj (fun k hk hs => hn k hk (by show (S k || T k) = true; rw [hs, Bool.true_or]))]
  · dsimp only at hs
    cases ht : T k
    · rw [ht, Bool.or_false] at hs
      rw [h2.n ht]
      exact a2 k hk hs
    · exact b2 k hk ht
  · rw [b3, a3, hc, jI_of (w 5), jI_add, jI_add, jI_add]
    exact jeq (by push_cast; omega)
  · rw [b4, a4, flt_or]
theorem last_65 : True := trivial

/-! one command, on both sides -/
def doB (σ : ST) (v1 v2 v3 v4 : Int32) (Q : Int32 → ST → Prop) : Prop :=
  ((v4 = (jI 1) → wp_X7_cutBars σ v1 v2 v3 (fun r1 s1 => ((r1 = (jI 0) → wp_X7_cuts s1 v1 v2 v3 (fun r2 s2 => ((r2 < (jI 0) → Q (jI 0) s2) ∧ (¬ r2 < (jI 0) → Q (jI 1) s2)))) ∧ (¬ r1 = (jI 0) → Q (jI 0) s1)))) ∧ (¬ v4 = (jI 1) → ((v4 = (jI 2) → wp_X7_bars σ v1 v2 v3 (fun r3 s3 => ((r3 = (jI 0) → wp_X7_number s3 v1 v2 v3 (fun r4 s4 => wp_X7_uses s4 r4 (fun r5 s5 => ((r5 = (jI (-1)) → Q (jI 0) s5) ∧ (¬ r5 = (jI (-1)) → Q (jI 1) s5))))) ∧ (¬ r3 = (jI 0) → Q (jI 0) s3)))) ∧ (¬ v4 = (jI 2) → ((v4 = (jI 3) → wp_X7_bars σ v1 v2 v3 (fun r6 s6 => (((jI 0) < r6 → Q (jI 0) s6) ∧ (¬ (jI 0) < r6 → wp_X7_number s6 v1 v2 v3 (fun r7 s7 => wp_X7_is s7 r7 (fun r8 s8 => ((r8 = (jI 0) → Q (jI 0) s8) ∧ (¬ r8 = (jI 0) → wp_X7_number s8 v1 v2 v3 (fun r9 s9 => wp_X7_goes s9 r9 (fun s10 => Q (jI 1) s10)))))))))) ∧ (¬ v4 = (jI 3) → ((v4 = (jI 4) → (vp_in (jI 1) 983 ∧ ∀ v5 : Int32, v5 = (σ.1 0 (jI 1).toNatClampNeg) → (vp_in (jI 1) 983 ∧ ∀ s11 : ST, s11 = zrp σ 0 (jI 1).toNatClampNeg (v5 + (jI 1)) → Q (jI 1) s11))) ∧ (¬ v4 = (jI 4) → ((v4 = (jI 5) → (vp_in (jI 0) 983 ∧ ∀ v6 : Int32, v6 = (σ.1 0 (jI 0).toNatClampNeg) → (((jI 3) ≤ v6 → Q (jI 0) σ) ∧ (¬ (jI 3) ≤ v6 → wp_X7_addsTray σ (fun r10 s12 => ((r10 ≤ (jI 0) → Q (jI 0) s12) ∧ (¬ r10 ≤ (jI 0) → Q (jI 1) s12))))))) ∧ (¬ v4 = (jI 5) → wp_X7_closes σ (fun r11 s13 => ((r11 < (jI 0) → Q (jI 0) s13) ∧ (¬ r11 < (jI 0) → Q (jI 1) s13)))))))))))))
theorem m_doB {μ : ST} {i : Nat} {Q : Int32 → ST → Prop} (hi : i < 30) (h : doB μ (μ.1 4 (4 * i + 1)) (μ.1 4 (4 * i + 2)) (μ.1 4 (4 * i + 3)) (μ.1 4 (4 * i)) Q) : wp_X7_does μ (jI ((4 * i : Nat) : Int)) Q := by
  unfold wp_X7_does
  exact m_rd (4 * i + 1) ((jI_add _ _).trans (jeq (by omega))) (by omega) (by decide) (m_rd (4 * i + 2) ((jI_add _ _).trans (jeq (by omega))) (by omega) (by decide) (m_rd (4 * i + 3) ((jI_add _ _).trans (jeq (by omega))) (by omega) (by decide) (m_rd (4 * i) rfl (by omega) (by decide) h)))
theorem Core.up {a b c d : ST} (h : Core 0 a b c d) : Core 1 a b c d := ⟨h.1, h.2.1, h.2.2.1, h.2.2.2.1, h.2.2.2.2.1, by have := h.2.2.2.2.2; omega⟩
theorem sameM_rf (μ : ST) : sameM μ μ := ⟨rfl, rfl, rfl, rfl, rfl⟩
set_option maxHeartbeats 1000000 in
theorem both_cmd {σ μ : ST} {l : List Nat} {k i : Nat} {Q : Int32 → ST → Prop} (hW : WF (μ.1 0)) (hck : 0 ≤ gw (μ.1 0) 2 ∧ gw (μ.1 0) 2 < 2000000) (hR : RK σ (μ.1 0) l) (hi : i < 30) (hk : 1 ≤ k ∧ k ≤ 6) (h51 : σ.1 51 i = jI ((k : Int) - 1)) (h4 : μ.1 4 (4 * i) = jI (k : Nat)) (heq : k ≤ 3 → ∀ j : Nat, j < 3 → μ.1 4 (4 * i + 1 + j) = σ.1 52 (3 * i + j)) (hbad : ∀ σ' : ST, same σ σ' → (∀ Q' : Int32 → ST → Prop, (∀ μ' : ST, sameM μ μ' → Q' (jI 0) μ') → wp_X7_does μ (jI ((4 * i : Nat) : Int)) Q') → Q (jI 0) σ') (hok : ∀ σ' : ST, (∀ Q' : Int32 → ST → Prop, (∀ μ' : ST, Core 1 σ μ σ' μ' → Q' (jI 1) μ') → wp_X7_does μ (jI ((4 * i : Nat) : Int)) Q') → Q (jI 1) σ') : wp_X6_carryOut σ (jI (i : Nat)) Q := by
  obtain ⟨a, ea, a1, a2⟩ := jI_ex (σ.1 52 (3 * i + 0))
  obtain ⟨b, eb, b1, b2⟩ := jI_ex (σ.1 52 (3 * i + 1))
  obtain ⟨c, ec, c1, c2⟩ := jI_ex (σ.1 52 (3 * i + 2))
  have hnum : ∀ (j : Nat) (x : Int) (Q' : Int32 → ST → Prop), j < 3 → σ.1 52 (3 * i + j) = jI x → Q' (jI x) σ → wp_X0_numberOf σ (jI (i : Nat)) (jI (j : Nat)) Q' := fun j x Q' hj ex hq => by
    unfold wp_X0_numberOf
    refine alE (b := jI x) ?_ hq
    rw [jI_mul, jI_add, show (i : Int) * 3 + (j : Int) = ((3 * i + j : Nat) : Int) by omega, cg _ 52 _ (by show 3 * i + j < 90; omega), ex]
  have hen : k ≤ 3 → μ.1 4 (4 * i + 1) = jI a ∧ μ.1 4 (4 * i + 2) = jI b ∧ μ.1 4 (4 * i + 3) = jI c := fun h3 => ⟨(heq h3 0 (by decide)).trans ea, (heq h3 1 (by decide)).trans eb, (heq h3 2 (by decide)).trans ec⟩
  unfold wp_X6_carryOut
  refine hnum 0 a _ (by decide) ea (hnum 1 b _ (by decide) eb (hnum 2 c _ (by decide) ec ?_))
  unfold wp_X0_wordOf
  refine alE ((cg σ 51 i (by show i < 30; exact hi)).trans h51) ?_
  have hcs : k = 1 ∨ k = 2 ∨ k = 3 ∨ k = 4 ∨ k = 5 ∨ k = 6 := by omega
  rcases hcs with rfl | rfl | rfl | rfl | rfl | rfl
  · obtain ⟨e1, e2, e3⟩ := hen (by decide)
    have hf := fcu_b a b c
    refine qt rfl (n_faultOfCut a1 a2 b1 b2 c1 c2 (qeq (by omega) (by omega) (by decide) (by decide) (fun e => ?_) (fun e => ?_)))
    · obtain ⟨g1, g2, g3⟩ := fcu_0 e
      obtain ⟨s, rfl⟩ : ∃ s : Nat, a = s := ⟨a.toNat, by omega⟩
      have hm : ∀ Q' : Int32 → ST → Prop, wp_X7_cuts μ (jI (s : Nat)) (jI b) (jI c) (fun r2 s2 => ((r2 < (jI 0) → Q' (jI 0) s2) ∧ (¬ r2 < (jI 0) → Q' (jI 1) s2))) → wp_X7_does μ (jI ((4 * i : Nat) : Int)) Q' := fun Q' h9 => by
        refine m_doB hi ?_
        rw [h4, e1, e2, e3]
        unfold doB
        refine qt rfl (m_cutBars a1 a2 b1 b2 c1 c2 ?_)
        rw [e]
        exact qt rfl h9
      refine n_cutSign hR hW (by omega) b1 b2 c1 c2 (fun h1 h2 => hok _ (fun Q' hQ => hm _ (m_cuts hW (by omega) b1 b2 c1 c2 (fun _ _ => qf (jnlt (a := 0) (b := 0) (by decide) (by decide) (by decide)) (hQ _ ⟨Kp.rf _, KpM.rf _, hW, ⟨l, hR⟩, by omega⟩)) (fun q => absurd ⟨h1, h2⟩ q)))) (fun hne σ2 hA => hok _ (fun Q' hQ => hm _ (m_cuts hW (by omega) b1 b2 c1 c2 (fun h1 h2 => absurd ⟨h1, h2⟩ hne) (fun _ μ2 w9 q1 q2 hg hw => qf (jnlt (by omega) (by decide) ?_) (hQ _ (core_cut hW hR (by omega) g2 g3 hA q1 q2 hg hw).up)))))
      have := cutN_le (μ.1 0) s 9
      omega
    · refine hbad σ (same_rf σ) (fun Q' hQ => m_doB hi ?_)
      rw [h4, e1, e2, e3]
      unfold doB
      exact qt rfl (m_cutBars a1 a2 b1 b2 c1 c2 (qf (jne e (by omega) (by omega) (by decide) (by decide)) (hQ μ (sameM_rf μ))))
  · obtain ⟨e1, e2, e3⟩ := hen (by decide)
    have hf := flt_b a b c
    refine qf (by decide) (qt rfl ?_)
    unfold wp_X6_faultOfUse
    refine n_faultOfLetter a1 a2 b1 b2 c1 c2 (qeq (by omega) (by omega) (by decide) (by decide) (fun e => ?_) (fun e => ?_))
    · have hk := ltn_lt e
      refine n_letterNumber e (n_find hR hW hk (fun σ' ru t s x tk lv g1 g2 g3 g4 => ?_))
      have hb := g3.b
      have hR2 : RK σ' (μ.1 0) l := hR.cg9 g1 g2
      have hm : ∀ Q' : Int32 → ST → Prop, wp_X7_uses μ (jI (ltn a b c : Nat)) (fun r5 s5 => ((r5 = (jI (-1)) → Q' (jI 0) s5) ∧ (¬ r5 = (jI (-1)) → Q' (jI 1) s5))) → wp_X7_does μ (jI ((4 * i : Nat) : Int)) Q' := fun Q' h9 => by
        refine m_doB hi ?_
        rw [h4, e1, e2, e3]
        unfold doB
        refine qf (by decide) (qt rfl (m_bars a1 a2 b1 b2 c1 c2 ?_))
        rw [e]
        exact qt rfl (m_number e h9)
      rw [g4.1]
      refine qeq (by omega) (by omega) (by decide) (by decide) (fun d => ?_) (fun d => ?_)
      · refine qf (jne (a := 3) (b := 0) (by decide)) (hbad σ' (same_45 g1 g2) (fun Q' hQ => hm _ (m_uses hW hk g3 (fun _ μ' q1 q2 => qt rfl (hQ μ' (sameM_lk q1 q2))) (fun q => by omega) (fun q => by omega) (fun q => by omega))))
      · refine qt rfl (n_letterNumber e (both_use (μ := μ) hW hck hk hR2 g3 g4 d (fun σ2 h45 huse => hok σ2 (fun Q' hQ => hm _ (huse μ _ rfl (fun μ' m1 hcore => qf (jne d) (hQ μ' ⟨?_, hcore.2⟩)))))))
        exact (show Kp σ σ' from ⟨fun r _ => by rw [g1], fun c _ h => g2 c (by omega)⟩).trans hcore.1
    · refine qf (jne e (by omega) (by omega) (by decide) (by decide)) (hbad σ (same_rf σ) (fun Q' hQ => m_doB hi ?_))
      rw [h4, e1, e2, e3]
      unfold doB
      exact qf (by decide) (qt rfl (m_bars a1 a2 b1 b2 c1 c2 (qf (jne e (by omega) (by omega) (by decide) (by decide)) (hQ μ (sameM_rf μ)))))
  · obtain ⟨e1, e2, e3⟩ := hen (by decide)
    have hf := flt_b a b c
    refine qf (by decide) (qf (by decide) (qt rfl ?_))
    unfold wp_X6_faultOfDrop
    refine n_faultOfLetter a1 a2 b1 b2 c1 c2 (qeq (by omega) (by omega) (by decide) (by decide) (fun e => ?_) (fun e => ?_))
    · have hk := ltn_lt e
      have hm : ∀ Q' : Int32 → ST → Prop, wp_X7_is μ (jI (ltn a b c : Nat)) (fun r8 s8 => ((r8 = (jI 0) → Q' (jI 0) s8) ∧ (¬ r8 = (jI 0) → wp_X7_number s8 (jI a) (jI b) (jI c) (fun r9 s9 => wp_X7_goes s9 r9 (fun s10 => Q' (jI 1) s10))))) → wp_X7_does μ (jI ((4 * i : Nat) : Int)) Q' := fun Q' h9 => by
        refine m_doB hi ?_
        rw [h4, e1, e2, e3]
        unfold doB
        refine qf (by decide) (qf (by decide) (qt rfl (m_bars a1 a2 b1 b2 c1 c2 ?_)))
        rw [e]
        exact qf (jnlt (a := 0) (b := 0) (by decide) (by decide) (by decide)) (m_number e h9)
      refine n_letterNumber e (n_isThere hR hW hk (qb (fun p => ?_) (fun p => ?_)))
      · refine qf (jne (a := 3) (b := 0) (by decide)) (hbad σ (same_rf σ) (fun Q' hQ => hm _ (m_is hk ?_)))
        rw [p]
        exact qt rfl (hQ μ (sameM_rf μ))
      · refine qt rfl (n_letterNumber e (n_dropLetter hR hk p (fun σ2 ha => hok σ2 (fun Q' hQ => hm _ (m_is hk ?_)))))
        rw [p]
        exact qf (jne (a := 1) (b := 0) (by decide)) (m_number e (m_goes hW.2.2.2.2.2 hk (fun μ2 g1 g2 g3 => hQ _ (core_goes hW hR ha g1 g2 g3 (eqS p)).up)))
    · refine qf (jne e (by omega) (by omega) (by decide) (by decide)) (hbad σ (same_rf σ) (fun Q' hQ => m_doB hi ?_))
      rw [h4, e1, e2, e3]
      unfold doB
      exact qf (by decide) (qf (by decide) (qt rfl (m_bars a1 a2 b1 b2 c1 c2 (qt (jlt (by omega) (by decide) (by omega)) (hQ μ (sameM_rf μ))))))
  · refine qf (by decide) (qf (by decide) (qf (by decide) (qt rfl ?_)))
    unfold wp_X4_beginLine
    refine n_countOfLine hR (al (hok _ (fun Q' hQ => m_doB hi ?_)))
    rw [h4]
    unfold doB
    exact qf (by decide) (qf (by decide) (qf (by decide) (qt rfl (m_rd 1 rfl (by decide) (by decide) (m_wr 1 rfl (by decide) (by decide) (hQ _ (core_line hW hR).up))))))
  · have w1 := hW.1.1
    have w2 := hW.1.2.1
    have ew : μ.1 0 0 = jI (nT (μ.1 0)) := gwj _ 0
    have es : σ.2 1 = jI (nT (μ.1 0)) := hR.2.2.2.2.1.trans ew
    refine qf (by decide) (qf (by decide) (qf (by decide) (qf (by decide) (qt rfl ?_))))
    unfold wp_X6_faultOfAddTray
    rw [es]
    refine qle (by decide) (by decide) (by omega) (by omega) (fun d => ?_) (fun d => ?_)
    · refine qf (jne (a := 3) (b := 0) (by decide)) (hbad σ (same_rf σ) (fun Q' hQ => m_doB hi ?_))
      rw [h4]
      unfold doB
      refine qf (by decide) (qf (by decide) (qf (by decide) (qf (by decide) (qt rfl (m_rd 0 rfl (by decide) (by decide) ?_)))))
      rw [ew]
      exact qt (jle d (by decide) (by omega)) (hQ μ (sameM_rf μ))
    · refine qt rfl ?_
      unfold wp_X4_openTray
      refine al (hok _ (fun Q' hQ => m_doB hi ?_))
      rw [h4]
      unfold doB
      refine qf (by decide) (qf (by decide) (qf (by decide) (qf (by decide) (qt rfl (m_rd 0 rfl (by decide) (by decide) ?_)))))
      rw [ew]
      refine qf (jnle d (by omega) (by decide)) (m_addsTray hW d (qf (jnle (by omega) (by decide) (by omega)) (hQ _ (core_tray hW hR d).up)))
  · refine qf (by decide) (qf (by decide) (qf (by decide) (qf (by decide) (qf (by decide) (qt rfl ?_)))))
    refine n_closes hR hW (fun σ2 hC h2 => hok _ (fun Q' hQ => m_doB hi ?_))
    rw [h4]
    unfold doB
    refine qf (by decide) (qf (by decide) (qf (by decide) (qf (by decide) (qf (by decide) (m_closes hW (fun μ2 g1 g2 g3 => qf (jnlt (by omega) (by decide) ?_) (hQ _ (core_close hW hR hC h2 g1 g2 g3).up)))))))
    have := List.countP_le_length (p := exB (μ.1 0)) (l := List.range 72)
    rw [List.length_range] at this
    omega
theorem last_89h : True := trivial

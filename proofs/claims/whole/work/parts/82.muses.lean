/-! the reference uses a letter; use -/
def MidM (w wM : Wd) (k : Nat) (ru : Int) (t s : Nat) (lv : Int) : Prop := (ru = 1 ∧ wM = w) ∨ (ru = 2 ∧ wM = shW w t (hgt w k)) ∨ (ru = 3 ∧ GoneS w wM (onB w t s)) ∨ (ru = 4 ∧ lv = -1 ∧ wM = w) ∨ (ru = 4 ∧ ∃ o : Nat, lv = o ∧ GoneS w wM (fun z => z == o))
theorem gone_many {w w' : Wd} (hW : WF w) {o : Nat} (h : GoneS w w' (fun z => z == o)) (ho : o < 144) (hs : isS w o = true) : 0 ≤ gw w' 7 ∧ gw w' 7 < 4 := by
  have hW' := h.WF hW
  have h1 := strt_len hW
  have h2 := strt_len hW'
  have h3 := hW.2.2.2.2.2.2.1
  refine ⟨h.2.2.2.2.1, ?_⟩
  rw [h.2.2.2.1] at h2
  have h2 : (((strt w).filter (fun z => !(z == o))).length : Int) = gw w' 7 := h2
  have hm : o ∈ strt w := (hW.2.2.2.2.2.2.2.2.2 o).mpr ⟨ho, of_decide_eq_true hs⟩
  have h4 : ((strt w).filter (fun z => !(z == o))).length < (strt w).length := List.length_filter_lt_length_iff_exists.mpr ⟨o, hm, by simp⟩
  omega
theorem m_noempt {μ : ST} {p : Int32} {K : ST → Prop} (h2 : ¬ μ.2 2 = jI 3) (hK : K μ) : ∃ nn, wl_X7_lays_116 K p nn μ (jI 0) := by
  refine ⟨1, ?_⟩
  show wb_X7_lays_116 K _ p μ (jI 0)
  unfold wb_X7_lays_116
  exact qf (jnle (a := 144) (b := 0) (by decide) (by decide) (by decide)) (qf h2 hK)
section MUS
variable {μ : ST} {k : Nat}
theorem at0 (hk : k < 144) {e : Int32} (he : e = jI 119 + jI 6 * jI (k : Nat)) : e = jI ((119 + 6 * k : Nat) : Int) := by
  rw [he, jI_mul, jI_add]
  exact jeq (by omega)
theorem atc (hk : k < 144) (c : Nat) {e : Int32} (he : e = (jI 119 + jI 6 * jI (k : Nat)) + jI (c : Nat)) : e = jI ((119 + 6 * k + c : Nat) : Int) := by
  rw [he, jI_mul, jI_add, jI_add]
  exact jeq (by omega)
theorem m_put3 {Q : ST → Prop} {t s x : Nat} (hk : k < 144) (h3 : μ.2 3 = jI (t : Nat)) (h4 : μ.2 4 = jI (s : Nat)) (h5 : μ.2 5 = jI (x : Nat)) (h : Q (zrp (zrp (zrp μ 0 (119 + 6 * k) (jI (t : Nat))) 0 (119 + 6 * k + 1) (jI (s : Nat))) 0 (119 + 6 * k + 2) (jI (x : Nat)))) : (vp_in ((jI 119) + ((jI 6) * jI (k : Nat))) 983 ∧ ∀ s11 : ST, s11 = zrp μ 0 ((jI 119) + ((jI 6) * jI (k : Nat))).toNatClampNeg (μ.2 3) → (vp_in (((jI 119) + ((jI 6) * jI (k : Nat))) + (jI 1)) 983 ∧ ∀ s12 : ST, s12 = zrp s11 0 (((jI 119) + ((jI 6) * jI (k : Nat))) + (jI 1)).toNatClampNeg (s11.2 4) → (vp_in (((jI 119) + ((jI 6) * jI (k : Nat))) + (jI 2)) 983 ∧ ∀ s13 : ST, s13 = zrp s12 0 (((jI 119) + ((jI 6) * jI (k : Nat))) + (jI 2)).toNatClampNeg (s12.2 5) → Q s13))) := by
  refine m_wr (119 + 6 * k) (at0 hk rfl) (by omega) (by decide) ?_
  rw [h3]
  refine m_wr (119 + 6 * k + 1) (atc hk 1 rfl) (by omega) (by decide) ?_
  rw [zrp_2, h4]
  refine m_wr (119 + 6 * k + 2) (atc hk 2 rfl) (by omega) (by decide) ?_
  rw [zrp_2, zrp_2, h5]
  exact h
theorem m_put4 {Q : ST → Prop} (hk : k < 144) (hm : 0 ≤ gw (μ.1 0) 7 ∧ gw (μ.1 0) 7 < 4) (h : ∀ μ' : ST, (∀ q : Nat, q ≠ 0 → μ'.1 q = μ.1 q) → μ'.2 = μ.2 → μ'.1 0 = upd (upd (upd (μ.1 0) (8 + (gw (μ.1 0) 7).toNat) (jI (k : Nat))) 7 (μ.1 0 7 + jI 1)) (119 + 6 * k) (jI 3) → Q μ') : (vp_in (jI 7) 983 ∧ ∀ v2 : Int32, v2 = (μ.1 0 (jI 7).toNatClampNeg) → (vp_in ((jI 8) + v2) 983 ∧ ∀ s14 : ST, s14 = zrp μ 0 ((jI 8) + v2).toNatClampNeg (jI (k : Nat)) → (vp_in (jI 7) 983 ∧ ∀ v3 : Int32, v3 = (s14.1 0 (jI 7).toNatClampNeg) → (vp_in (jI 7) 983 ∧ ∀ s15 : ST, s15 = zrp s14 0 (jI 7).toNatClampNeg (v3 + (jI 1)) → (vp_in ((jI 119) + ((jI 6) * jI (k : Nat))) 983 ∧ ∀ s16 : ST, s16 = zrp s15 0 ((jI 119) + ((jI 6) * jI (k : Nat))).toNatClampNeg (jI 3) → Q s16))))) := by
  refine m_rd 7 rfl (by decide) (by decide) ?_
  refine m_wr (8 + (gw (μ.1 0) 7).toNat) (by rw [gwj (μ.1 0) 7, jI_add]; exact jeq (by omega)) (by omega) (by decide) (m_rd 7 rfl (by decide) (by decide) (m_wr 7 rfl (by decide) (by decide) (m_wr (119 + 6 * k) (at0 hk rfl) (by omega) (by decide) (h _ (fun q hq => ?_) rfl ?_))))
  · exact (zrp_o hq).trans ((zrp_o hq).trans (zrp_o hq))
  · rw [zrp0, zrp0, zrp0, upd_o (show (7 : Nat) ≠ 8 + (gw (μ.1 0) 7).toNat by omega)]
theorem m_lays {Q : ST → Prop} {ru : Int} {t s x : Nat} {tk lv : Int} (hW : WF (μ.1 0)) (hk : k < 144) (hG : Geo (μ.1 0) k ru t s x lv) (hM : PM μ ru t s x tk lv) (hL : 1 ≤ ru → ru ≤ 3 → ∀ (μ' : ST) (wM : Wd), (∀ q : Nat, q ≠ 0 → μ'.1 q = μ.1 q) → μ'.2 = μ.2 → MidM (μ.1 0) wM k ru t s lv → μ'.1 0 = upd (upd (upd wM (119 + 6 * k) (jI (t : Nat))) (119 + 6 * k + 1) (jI (s : Nat))) (119 + 6 * k + 2) (jI (x : Nat)) → Q μ') (hS : ru = 4 → ∀ (μ' : ST) (wM : Wd), (∀ q : Nat, q ≠ 0 → μ'.1 q = μ.1 q) → μ'.2 = μ.2 → MidM (μ.1 0) wM k ru t s lv → μ'.1 0 = upd (upd (upd wM (8 + (gw wM 7).toNat) (jI (k : Nat))) 7 (wM 7 + jI 1)) (119 + 6 * k) (jI 3) → Q μ') : wp_X7_lays μ (jI (k : Nat)) Q := by
  obtain ⟨m2, m3, m6, -⟩ := hM
  have hT2 := hW.1.2.1
  have f1 := hW.2.2.2.2.2.1
  unfold wp_X7_lays
  rw [m2, m6]
  rcases hG with ⟨g1, g2, g3, g4, g5, g6, g7⟩ | ⟨g1, g2, g3, g4, g5, g6⟩ | ⟨g1, g2, g3, g4, g5, g6⟩ | ⟨g1, g2, g3⟩ | ⟨g1, o, g2, g3, g4⟩
  · obtain ⟨e3, e4, e5⟩ := m3 (by omega) (by omega)
    refine qf (jne (by omega)) (qf (jne (by omega)) (m_noempt (by rw [m2]; exact jne (by omega)) (m_put3 hk e3 e4 e5 (hL (by omega) (by omega) _ (μ.1 0) (fun q hq => ?_) rfl (Or.inl ⟨g1, rfl⟩) ?_))))
    · exact (zrp_o hq).trans ((zrp_o hq).trans (zrp_o hq))
    · rw [zrp0, zrp0, zrp0]
  · obtain ⟨e3, e4, e5⟩ := m3 (by omega) (by omega)
    have hb9 := hW.2.1 t g2
    have hh := hgt_b hW hk
    have hfit := sh_fits hW g2 hh.1 g4
    refine qf (jne (by omega)) (qt (jeq g1) (m_heightOf hk ?_))
    rw [e3, e4]
    refine m_wr (47 + 24 * t + s) (by rw [jI_mul, jI_add, jI_add]; exact jeq (by omega)) (by omega) (by decide) ?_
    rw [zrp_2, e3, jI_add]
    refine al (m_rd (44 + t) (jeq (by omega)) (by omega) (by decide) (m_wr (44 + t) (jeq (by omega)) (by omega) (by decide) ?_))
    refine m_noempt (by rw [zrp_2, zrp_2, m2]; exact jne (by omega)) (m_put3 hk e3 e4 e5 (hL (by omega) (by omega) _ (shW (μ.1 0) t (hgt (μ.1 0) k)) (fun q hq => ?_) rfl (Or.inr (Or.inl ⟨g1, rfl⟩)) ?_))
    · exact (zrp_o hq).trans ((zrp_o hq).trans ((zrp_o hq).trans ((zrp_o hq).trans (zrp_o hq))))
    · rw [zrp0, zrp0, zrp0, zrp0, zrp0, upd_o (show 44 + t ≠ 47 + 24 * t + s by omega)]
      unfold shW
      rw [show (nS (μ.1 0) t).toNat = s by omega]
  · obtain ⟨e3, e4, e5⟩ := m3 (by omega) (by omega)
    have hb9 := hW.2.1 t g2
    refine qf (jne (by omega)) (qf (jne (by omega)) (m_empties hW (by omega) (by omega) (by rw [m2, g1]) e3 e4 (fun u q1 q2 q3 => ?_)))
    refine m_put3 hk (by rw [q2]; exact e3) (by rw [q2]; exact e4) (by rw [q2]; exact e5) (hL (by omega) (by omega) _ (u.1 0) (fun q hq => ?_) q2 (Or.inr (Or.inr (Or.inl ⟨g1, q3⟩))) ?_)
    · exact (zrp_o hq).trans ((zrp_o hq).trans ((zrp_o hq).trans (q1 q hq)))
    · rw [zrp0, zrp0, zrp0]
  · refine qt (jeq g1) (qt (jeq g2) (m_put4 hk ⟨f1, g3⟩ (fun u q1 q2 q3 => hS g1 u (μ.1 0) q1 q2 (Or.inr (Or.inr (Or.inr (Or.inl ⟨g1, g2, rfl⟩)))) q3)))
  · refine qt (jeq g1) (qf (jne (by omega)) ?_)
    rw [g2]
    refine m_goes hW.2.2.2.2.2 g3 (fun u q1 q2 q3 => ?_)
    refine m_put4 hk (gone_many hW q3 g3 g4) (fun u' r1 r2 r3 => hS g1 u' (u.1 0) (fun q hq => (r1 q hq).trans (q1 q hq)) (r2.trans q2) (Or.inr (Or.inr (Or.inr (Or.inr ⟨g1, o, g2, q3⟩)))) r3)
theorem m_useTail {Q : ST → Prop} (hk : k < 144) {x1 : Int32} (hx1 : x1 = (jI 119) + ((jI 6) * jI (k : Nat))) (h : ∀ μ' : ST, (∀ q : Nat, q ≠ 0 → μ'.1 q = μ.1 q) → μ'.2 = μ.2 → μ'.1 0 = upd (upd (upd (upd (upd (μ.1 0) (119 + 6 * k + 5) (jI 0)) 2 (μ.1 0 2 + jI 1)) (119 + 6 * k + 3) (μ.1 0 2 + jI 1)) (119 + 6 * k + 4) (μ.1 0 1)) (119 + 6 * k + 5) (jI 1) → Q μ') : (vp_in (x1 + (jI 5)) 983 ∧ ∀ s11 : ST, s11 = zrp μ 0 (x1 + (jI 5)).toNatClampNeg (jI 0) → (vp_in (jI 2) 983 ∧ ∀ v8 : Int32, v8 = (s11.1 0 (jI 2).toNatClampNeg) → (vp_in (jI 2) 983 ∧ ∀ s12 : ST, s12 = zrp s11 0 (jI 2).toNatClampNeg (v8 + (jI 1)) → (vp_in (jI 2) 983 ∧ ∀ v9 : Int32, v9 = (s12.1 0 (jI 2).toNatClampNeg) → (vp_in (x1 + (jI 3)) 983 ∧ ∀ s13 : ST, s13 = zrp s12 0 (x1 + (jI 3)).toNatClampNeg v9 → (vp_in (jI 1) 983 ∧ ∀ v10 : Int32, v10 = (s13.1 0 (jI 1).toNatClampNeg) → (vp_in (x1 + (jI 4)) 983 ∧ ∀ s14 : ST, s14 = zrp s13 0 (x1 + (jI 4)).toNatClampNeg v10 → (∀ x3 : Int32, x3 = (x1 + (jI 5)) → (vp_in x3 983 ∧ ∀ v11 : Int32, v11 = (s14.1 0 x3.toNatClampNeg) → (vp_in x3 983 ∧ ∀ s15 : ST, s15 = zrp s14 0 x3.toNatClampNeg (v11 + (jI 1)) → Q s15)))))))))) := by
  subst hx1
  refine m_wr (119 + 6 * k + 5) (atc hk 5 rfl) (by omega) (by decide) (m_rd 2 rfl (by decide) (by decide) (m_wr 2 rfl (by decide) (by decide) (m_rd 2 rfl (by decide) (by decide) (m_wr (119 + 6 * k + 3) (atc hk 3 rfl) (by omega) (by decide) (m_rd 1 rfl (by decide) (by decide) (m_wr (119 + 6 * k + 4) (atc hk 4 rfl) (by omega) (by decide) (al (m_rd (119 + 6 * k + 5) (atc hk 5 rfl) (by omega) (by decide) (m_wr (119 + 6 * k + 5) (atc hk 5 rfl) (by omega) (by decide) (h _ (fun q hq => ?_) rfl ?_))))))))))
  · rw [zrp_o hq, zrp_o hq, zrp_o hq, zrp_o hq, zrp_o hq]
  · simp (disch := omega) only [zrp0, upd_o, upd_at]
    rfl
theorem m_hitTail {Q : ST → Prop} (hk : k < 144) {x1 : Int32} (hx1 : x1 = (jI 119) + ((jI 6) * jI (k : Nat))) (h : ∀ μ' : ST, (∀ q : Nat, q ≠ 0 → μ'.1 q = μ.1 q) → μ'.2 = μ.2 → μ'.1 0 = hitW (μ.1 0) k → Q μ') : (vp_in (jI 3) 983 ∧ ∀ v1 : Int32, v1 = (μ.1 0 (jI 3).toNatClampNeg) → (vp_in (jI 3) 983 ∧ ∀ s2 : ST, s2 = zrp μ 0 (jI 3).toNatClampNeg (v1 + (jI 1)) → (vp_in (jI 2) 983 ∧ ∀ v2 : Int32, v2 = (s2.1 0 (jI 2).toNatClampNeg) → (vp_in (jI 2) 983 ∧ ∀ s3 : ST, s3 = zrp s2 0 (jI 2).toNatClampNeg (v2 + (jI 1)) → (vp_in (jI 2) 983 ∧ ∀ v3 : Int32, v3 = (s3.1 0 (jI 2).toNatClampNeg) → (vp_in (x1 + (jI 3)) 983 ∧ ∀ s4 : ST, s4 = zrp s3 0 (x1 + (jI 3)).toNatClampNeg v3 → (vp_in (jI 1) 983 ∧ ∀ v4 : Int32, v4 = (s4.1 0 (jI 1).toNatClampNeg) → (vp_in (x1 + (jI 4)) 983 ∧ ∀ s5 : ST, s5 = zrp s4 0 (x1 + (jI 4)).toNatClampNeg v4 → (∀ x2 : Int32, x2 = (x1 + (jI 5)) → (vp_in x2 983 ∧ ∀ v5 : Int32, v5 = (s5.1 0 x2.toNatClampNeg) → (vp_in x2 983 ∧ ∀ s6 : ST, s6 = zrp s5 0 x2.toNatClampNeg (v5 + (jI 1)) → Q s6))))))))))) := by
  subst hx1
  refine m_rd 3 rfl (by decide) (by decide) (m_wr 3 rfl (by decide) (by decide) (m_rd 2 rfl (by decide) (by decide) (m_wr 2 rfl (by decide) (by decide) (m_rd 2 rfl (by decide) (by decide) (m_wr (119 + 6 * k + 3) (atc hk 3 rfl) (by omega) (by decide) (m_rd 1 rfl (by decide) (by decide) (m_wr (119 + 6 * k + 4) (atc hk 4 rfl) (by omega) (by decide) (al (m_rd (119 + 6 * k + 5) (atc hk 5 rfl) (by omega) (by decide) (m_wr (119 + 6 * k + 5) (atc hk 5 rfl) (by omega) (by decide) (h _ (fun q hq => ?_) rfl ?_)))))))))))
  · rw [zrp_o hq, zrp_o hq, zrp_o hq, zrp_o hq, zrp_o hq]
  · unfold hitW
    simp (disch := omega) only [zrp0, upd_o, upd_at]
end MUS
theorem putL_eq {wM b : Wd} {k t s x : Nat} (hb : b = upd (upd (upd wM (119 + 6 * k) (jI (t : Nat))) (119 + 6 * k + 1) (jI (s : Nat))) (119 + 6 * k + 2) (jI (x : Nat))) : eqW (putL wM k t s x) (upd (upd (upd (upd (upd b (119 + 6 * k + 5) (jI 0)) 2 (b 2 + jI 1)) (119 + 6 * k + 3) (b 2 + jI 1)) (119 + 6 * k + 4) (b 1)) (119 + 6 * k + 5) (jI 1)) := by
  intro j hj
  subst hb
  unfold putL
  by_cases h0 : j = 2
  · subst h0
    simp (disch := omega) only [upd_o, upd_at]
  by_cases h1 : j = 119 + 6 * k
  · subst h1
    simp (disch := omega) only [upd_o, upd_at]
  by_cases h2 : j = 119 + 6 * k + 1
  · subst h2
    simp (disch := omega) only [upd_o, upd_at]
  by_cases h3 : j = 119 + 6 * k + 2
  · subst h3
    simp (disch := omega) only [upd_o, upd_at]
  by_cases h4 : j = 119 + 6 * k + 3
  · subst h4
    simp (disch := omega) only [upd_o, upd_at]
  by_cases h5 : j = 119 + 6 * k + 4
  · subst h5
    simp (disch := omega) only [upd_o, upd_at]
  by_cases h6 : j = 119 + 6 * k + 5
  · subst h6
    simp (disch := omega) only [upd_o, upd_at]
  simp (disch := omega) only [upd_o, upd_at]
theorem putS_eq {wM b : Wd} {k : Nat} (hm : 0 ≤ gw wM 7 ∧ gw wM 7 < 4) (hb : b = upd (upd (upd wM (8 + (gw wM 7).toNat) (jI (k : Nat))) 7 (wM 7 + jI 1)) (119 + 6 * k) (jI 3)) : eqW (putS wM k) (upd (upd (upd (upd (upd b (119 + 6 * k + 5) (jI 0)) 2 (b 2 + jI 1)) (119 + 6 * k + 3) (b 2 + jI 1)) (119 + 6 * k + 4) (b 1)) (119 + 6 * k + 5) (jI 1)) := by
  intro j hj
  subst hb
  unfold putS
  by_cases h0 : j = 2
  · subst h0
    simp (disch := omega) only [upd_o, upd_at]
  by_cases h1 : j = 119 + 6 * k
  · subst h1
    simp (disch := omega) only [upd_o, upd_at]
  by_cases h2 : j = 7
  · subst h2
    simp (disch := omega) only [upd_o, upd_at]
  by_cases h3 : j = 8 + (gw wM 7).toNat
  · subst h3
    simp (disch := omega) only [upd_o, upd_at]
  by_cases h4 : j = 119 + 6 * k + 3
  · subst h4
    simp (disch := omega) only [upd_o, upd_at]
  by_cases h5 : j = 119 + 6 * k + 4
  · subst h5
    simp (disch := omega) only [upd_o, upd_at]
  by_cases h6 : j = 119 + 6 * k + 5
  · subst h6
    simp (disch := omega) only [upd_o, upd_at]
  simp (disch := omega) only [upd_o, upd_at]
theorem last_82 : True := trivial

/-! the reference's small methods -/
theorem m_in {σ : ST} {a b c : Int} {Q : Int32 → ST → Prop} (h1 : -2147483648 ≤ a) (h2 : a < 2147483648) (h3 : -2147483648 ≤ b) (h4 : b < 2147483648) (h5 : -2147483648 ≤ c) (h6 : c < 2147483648) (h : Q (jI (bI (decide (b ≤ a ∧ a ≤ c)))) σ) : wp_X7_in σ (jI a) (jI b) (jI c) Q := by
  unfold wp_X7_in
  refine qlt h1 h2 h3 h4 (fun c1 => ?_) (fun c1 => ?_)
  · rw [show decide (b ≤ a ∧ a ≤ c) = false from decide_eq_false (by omega)] at h
    exact h
  · refine qlt h5 h6 h1 h2 (fun c2 => ?_) (fun c2 => ?_)
    · rw [show decide (b ≤ a ∧ a ≤ c) = false from decide_eq_false (by omega)] at h
      exact h
    · rw [show decide (b ≤ a ∧ a ≤ c) = true from decide_eq_true (by omega)] at h
      exact h
theorem c_in {σ : ST} {a b c : Int} {Q : Int32 → ST → Prop} (h1 : -2147483648 ≤ a) (h2 : a < 2147483648) (h3 : -2147483648 ≤ b) (h4 : b < 2147483648) (h5 : -2147483648 ≤ c) (h6 : c < 2147483648) (h : Q (jI (bI (decide (b ≤ a ∧ a ≤ c)))) σ) : wp_X6_isBetween σ (jI a) (jI b) (jI c) Q := m_in h1 h2 h3 h4 h5 h6 h
/-- the reference's row at a place -/
theorem m_rd {σ : ST} {n : Nat} {A : Int32 → Prop} {e : Int32} (i : Nat) (he : e = jI (i : Int)) (hi : i < n) (hn : n < 2147483648) {r : Nat} (h : A (σ.1 r i)) : vp_in e n ∧ ∀ v : Int32, v = σ.1 r e.toNatClampNeg → A v := by
  subst he
  rw [jcl i (by omega)]
  exact ⟨jin hi, al h⟩
theorem m_wr {σ : ST} {n : Nat} {A : ST → Prop} {e v : Int32} (i : Nat) (he : e = jI (i : Int)) (hi : i < n) (hn : n < 2147483648) {r : Nat} (h : A (zrp σ r i v)) : vp_in e n ∧ ∀ s : ST, s = zrp σ r e.toNatClampNeg v → A s := by
  subst he
  rw [jcl i (by omega)]
  exact ⟨jin hi, al h⟩
theorem m_of {σ : ST} {Q : Int32 → ST → Prop} {k f : Nat} (hk : k < 144) (hf : f < 6) (h : Q (σ.1 0 (119 + 6 * k + f)) σ) : wp_X7_of σ (jI k) (jI f) Q := by
  unfold wp_X7_of
  refine m_rd (119 + 6 * k + f) ?_ (by omega) (by decide) h
  rw [jI_mul, jI_add, jI_add]
  exact jeq (by omega)
theorem m_widthOf {σ : ST} {Q : Int32 → ST → Prop} {k : Nat} (hk : k < 144) (h : Q (jI (wdt (σ.1 0) k)) σ) : wp_X7_widthOf σ (jI k) Q := by
  unfold wp_X7_widthOf
  have e1 : jI (k : Int) / jI 9 = jI ((k / 9 : Nat) : Int) := jd (d := 9) (by omega) (by decide) (by decide)
  have e2 : jI (k : Int) - jI (k : Int) / jI 9 * jI 9 = jI ((k % 9 : Nat) : Int) := jr (d := 9) (by omega) (by decide) (by decide)
  have e3 : jI ((k % 9 : Nat) : Int) / jI 3 = jI ((k % 9 / 3 : Nat) : Int) := jd (d := 3) (by omega) (by decide) (by decide)
  have e4 : jI (k : Int) - jI (k : Int) / jI 3 * jI 3 = jI ((k % 3 : Nat) : Int) := jr (d := 3) (by omega) (by decide) (by decide)
  refine m_rd (12 + k / 9) ?_ (by omega) (by decide) ?_
  · rw [e1, jI_add]
    exact jeq (by omega)
  · rw [e2, e3, e4, gwj (σ.1 0) (12 + k / 9), jI_add, jI_mul, jI_mul, jI_add]
    exact h
theorem m_heightOf {σ : ST} {Q : Int32 → ST → Prop} {k : Nat} (hk : k < 144) (h : Q (jI (hgt (σ.1 0) k)) σ) : wp_X7_heightOf σ (jI k) Q := by
  unfold wp_X7_heightOf
  have e1 : jI (k : Int) / jI 9 = jI ((k / 9 : Nat) : Int) := jd (d := 9) (by omega) (by decide) (by decide)
  have e2 : jI (k : Int) - jI (k : Int) / jI 9 * jI 9 = jI ((k % 9 : Nat) : Int) := jr (d := 9) (by omega) (by decide) (by decide)
  have e3 : jI ((k % 9 : Nat) : Int) / jI 3 = jI ((k % 9 / 3 : Nat) : Int) := jd (d := 3) (by omega) (by decide) (by decide)
  have e4 : jI (k : Int) - jI (k : Int) / jI 3 * jI 3 = jI ((k % 3 : Nat) : Int) := jr (d := 3) (by omega) (by decide) (by decide)
  refine m_rd (28 + k / 9) ?_ (by omega) (by decide) ?_
  · rw [e1, jI_add]
    exact jeq (by omega)
  · rw [e2, e3, e4, gwj (σ.1 0) (28 + k / 9), jI_add, jI_mul, jI_mul, jI_add]
    exact h
theorem m_areaOf {σ : ST} {Q : Int32 → ST → Prop} {k : Nat} (hk : k < 144) (h : Q (jI (wdt (σ.1 0) k * hgt (σ.1 0) k)) σ) : wp_X7_areaOf σ (jI k) Q := by
  unfold wp_X7_areaOf
  refine m_widthOf hk (m_heightOf hk ?_)
  rw [jI_mul]
  exact h
theorem m_is {σ : ST} {Q : Int32 → ST → Prop} {k : Nat} (hk : k < 144) (h : Q (jI (bI (isP (σ.1 0) k))) σ) : wp_X7_is σ (jI k) Q := by
  unfold wp_X7_is
  refine m_of (f := 0) hk (by decide) ?_
  rw [gwj (σ.1 0)]
  refine qeq (gw_lo _ _) (gw_hi _ _) (by decide) (by decide) (fun c => ?_) (fun c => ?_)
  · rw [show isP (σ.1 0) k = false from decide_eq_false (by intro q; exact q c)] at h
    exact h
  · rw [show isP (σ.1 0) k = true from decide_eq_true c] at h
    exact h
theorem m_isLaid {σ : ST} {Q : Int32 → ST → Prop} {k : Nat} (hk : k < 144) (h : Q (jI (bI (isL (σ.1 0) k))) σ) : wp_X7_isLaid σ (jI k) Q := by
  unfold wp_X7_isLaid
  refine m_of (f := 0) hk (by decide) ?_
  rw [gwj (σ.1 0)]
  refine m_in (gw_lo _ _) (gw_hi _ _) (by decide) (by decide) (by decide) (by decide) ⟨nar_b _, ?_⟩
  exact h
theorem m_isOn {σ : ST} {Q : Int32 → ST → Prop} {k : Nat} {t s : Int} (hk : k < 144) (h1 : -2147483648 ≤ t) (h2 : t < 2147483648) (h3 : -2147483648 ≤ s) (h4 : s < 2147483648) (h : Q (jI (bI (isO (σ.1 0) k t s))) σ) : wp_X7_isOn σ (jI k) (jI t) (jI s) Q := by
  unfold wp_X7_isOn
  refine m_of (f := 0) hk (by decide) ?_
  rw [gwj (σ.1 0)]
  refine qeq (gw_lo _ _) (gw_hi _ _) h1 h2 (fun c => ?_) (fun c => ?_)
  · refine m_of (f := 1) hk (by decide) ?_
    rw [gwj (σ.1 0)]
    refine qeq (gw_lo _ _) (gw_hi _ _) h3 h4 (fun c2 => ?_) (fun c2 => ?_)
    · rw [show isO (σ.1 0) k t s = true from decide_eq_true ⟨c, c2⟩] at h
      exact h
    · rw [show isO (σ.1 0) k t s = false from decide_eq_false (fun q => c2 q.2)] at h
      exact h
  · rw [show isO (σ.1 0) k t s = false from decide_eq_false (fun q => c q.1)] at h
    exact h
theorem m_isNow {σ : ST} {Q : Int32 → ST → Prop} {k : Nat} (hk : k < 144) (h : Q (jI (bI (isNw (σ.1 0) k))) σ) : wp_X7_isNow σ (jI k) Q := by
  unfold wp_X7_isNow
  refine m_is hk (qb (fun c => ?_) (fun c => ?_))
  · have c' : ¬ aT (σ.1 0) k ≠ -1 := of_decide_eq_false c
    rw [show isNw (σ.1 0) k = false from decide_eq_false (fun q => c' q.1)] at h
    exact h
  · have c' : aT (σ.1 0) k ≠ -1 := of_decide_eq_true c
    refine m_of (f := 4) hk (by decide) ?_
    refine m_rd 1 rfl (by decide) (by decide) ?_
    refine ⟨fun c2 => ?_, fun c2 => ?_⟩
    · rw [show isNw (σ.1 0) k = true from decide_eq_true ⟨c', c2⟩] at h
      exact h
    · rw [show isNw (σ.1 0) k = false from decide_eq_false (fun q => c2 q.2)] at h
      exact h
theorem m_tall {σ : ST} {Q : Int32 → ST → Prop} {t s : Nat} (ht : t < 3) (hs : s < 24) (h : Q (jI (tl (σ.1 0) t s)) σ) : wp_X7_tall σ (jI t) (jI s) Q := by
  unfold wp_X7_tall
  refine m_rd (47 + 24 * t + s) ?_ (by omega) (by decide) ?_
  · rw [jI_mul, jI_add, jI_add]
    exact jeq (by omega)
  · rw [gwj (σ.1 0)]
    exact h
theorem m_top {σ : ST} {Q : Int32 → ST → Prop} {t s : Nat} (ht : t < 3) (hs : s ≤ 24) (h : Q (jI (topH (σ.1 0) t s)) σ) : wp_X7_top σ (jI t) (jI s) Q := by
  unfold wp_X7_top
  refine lpA (wl := wl_X7_top_5 _ _ _) (wb := fun LL => wb_X7_top_5 _ LL _ _) (fun _ => rfl) (fun _ => σ) (fun i => jI (topH (σ.1 0) t i)) 0 s (fun i hi LL hLL => ?_)
  unfold wb_X7_top_5
  refine qle (by omega) (by omega) (by omega) (by omega) (fun c => ?_) (fun c => ?_)
  · have e : i = s := by omega
    subst e
    exact h
  · have hi2 : i < s := by omega
    rw [Nat.zero_add]
    refine m_tall ht (by omega) (alE (jI_add _ _) (alE (jI_add _ _) ?_))
    have h9 := hLL hi2
    rw [Nat.zero_add] at h9
    exact h9
theorem m_codeOf {σ : ST} {Q : Int32 → ST → Prop} {k : Nat} (hk : k < 144) (h : Q (jI ((100 * (k / 9) + 10 * (k % 9 / 3 + 1) + k % 3 : Nat) : Int)) σ) : wp_X7_codeOf σ (jI k) Q := by
  unfold wp_X7_codeOf
  have e1 : jI (k : Int) / jI 9 = jI ((k / 9 : Nat) : Int) := jd (d := 9) (by omega) (by decide) (by decide)
  have e2 : jI (k : Int) - jI (k : Int) / jI 9 * jI 9 = jI ((k % 9 : Nat) : Int) := jr (d := 9) (by omega) (by decide) (by decide)
  have e3 : jI ((k % 9 : Nat) : Int) / jI 3 = jI ((k % 9 / 3 : Nat) : Int) := jd (d := 3) (by omega) (by decide) (by decide)
  have e4 : jI (k : Int) - jI (k : Int) / jI 3 * jI 3 = jI ((k % 3 : Nat) : Int) := jr (d := 3) (by omega) (by decide) (by decide)
  rw [e2, e3, e4, e1, jI_mul, jI_add, jI_mul, jI_add, jI_add]
  refine (jeq ?_ : jI _ = jI ((100 * (k / 9) + 10 * (k % 9 / 3 + 1) + k % 3 : Nat) : Int)) ▸ h
  omega
theorem last_42 : True := trivial

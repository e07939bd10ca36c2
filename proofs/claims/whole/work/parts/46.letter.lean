/-! what is asked of a letter, of a sign, of a tray -/
theorem jeT {a b : Int} (h : a = b) : (jI a = jI b) = True := eq_true (jeq h)
theorem jeF {a b : Int} (h : a ≠ b) (h1 : -2147483648 ≤ a := by omega) (h2 : a < 2147483648 := by omega) (h3 : -2147483648 ≤ b := by omega) (h4 : b < 2147483648 := by omega) : (jI a = jI b) = False := eq_false (jne h h1 h2 h3 h4)
def lv (w : Wd) (k x : Nat) : Int32 := if x = 3 then jI (wdt w k) else if x = 4 then jI (hgt w k) else if isP w k = false then jI (-1) else if x = 5 then w (119 + 6 * k + 3) else if x = 6 then w (119 + 6 * k + 4) else if x = 7 then w (119 + 6 * k + 5) else if isL w k = false then jI (-1) else if x = 0 then jI (aT w k) else if x = 1 then jI (aX w k) else if x = 2 then jI (topH w (aT w k).toNat (aS w k).toNat) else jI (aS w k)
theorem laid_c {w : Wd} (hW : WF w) {k : Nat} (hk : k < 144) (hl : isL w k = true) : 0 ≤ aT w k ∧ aT w k < nT w ∧ aT w k ≤ 2 ∧ 0 ≤ aS w k ∧ aS w k < nS w (aT w k).toNat ∧ aS w k < 24 ∧ 0 ≤ aX w k ∧ aX w k + wdt w k ≤ 24 ∧ hgt w k ≤ tl w (aT w k).toNat (aS w k).toNat := by
  have h1 := isL_t hl
  rcases hW.2.2.1 k hk with h | h | ⟨h2, h3, h4, h5, h6, h7, h8⟩
  · omega
  · omega
  · have h9 := hW.2.1 (aT w k).toNat (by omega)
    exact ⟨h2, h3, h1.2, h4, h5, by omega, h6, h7, h8⟩
theorem wdt_b {w : Wd} (hW : WF w) {k : Nat} (hk : k < 144) : 1 ≤ wdt w k ∧ wdt w k ≤ 22 := by
  have h := hW.1.2.2.1 (k / 9) (by omega)
  unfold wdt
  have h1 : k % 9 / 3 = 0 ∨ k % 9 / 3 = 1 ∨ k % 9 / 3 = 2 := by omega
  rcases h1 with h1 | h1 | h1 <;> rw [h1] <;> push_cast <;> omega
theorem hgt_b {w : Wd} (hW : WF w) {k : Nat} (hk : k < 144) : 1 ≤ hgt w k ∧ hgt w k ≤ 22 := by
  have h := hW.1.2.2.2 (k / 9) (by omega)
  unfold hgt
  have h1 : k % 9 / 3 = 0 ∨ k % 9 / 3 = 1 ∨ k % 9 / 3 = 2 := by omega
  rcases h1 with h1 | h1 | h1 <;> rw [h1] <;> push_cast <;> omega
section LET
variable {σ : ST} {w : Wd} {l : List Nat} {k : Nat} {Q : Int32 → ST → Prop}
theorem n_placeValue (hR : RK σ w l) (hW : WF w) (hk : k < 144) (hl : isL w k = true) {x : Nat} (hx : x < 9) (h : Q (if x = 0 then jI (aT w k) else if x = 1 then jI (aX w k) else if x = 2 then jI (topH w (aT w k).toNat (aS w k).toNat) else jI (aS w k)) σ) : wp_X4_placeValue σ (jI k) (jI x) Q := by
  obtain ⟨h1, h2, h3, h4, h5, h6, h7, h8, h9⟩ := laid_c hW hk hl
  have hs : slo w k = ((24 * (aT w k).toNat + (aS w k).toNat : Nat) : Int) := by
    rw [slo_on hW hk (by omega) (by omega)]
    exact bo_t (by omega)
  unfold wp_X4_placeValue
  refine alE ((hR.slot hk).trans (jeq hs)) ?_
  have e1 : jI ((24 * (aT w k).toNat + (aS w k).toNat : Nat) : Int) / jI 24 = jI (((24 * (aT w k).toNat + (aS w k).toNat) / 24 : Nat) : Int) := jd (d := 24) (by omega) (by decide) (by decide)
  have e2 : jI ((24 * (aT w k).toNat + (aS w k).toNat : Nat) : Int) - jI ((24 * (aT w k).toNat + (aS w k).toNat : Nat) : Int) / jI 24 * jI 24 = jI (((24 * (aT w k).toNat + (aS w k).toNat) % 24 : Nat) : Int) := jr (d := 24) (by omega) (by decide) (by decide)
  refine qeq (by omega) (by omega) (by omega) (by omega) (fun c => ?_) (fun c => ?_)
  · rw [if_pos (by omega)] at h
    rw [e1, show (((24 * (aT w k).toNat + (aS w k).toNat) / 24 : Nat) : Int) = aT w k by omega]
    exact h
  · rw [if_neg (by omega)] at h
    refine qeq (by omega) (by omega) (by omega) (by omega) (fun c => ?_) (fun c => ?_)
    · rw [if_pos (by omega)] at h
      refine alE ((cg σ 4 k hk).trans ((hR.2.1 k hk).2.1 hl).1) h
    · rw [if_neg (by omega)] at h
      refine qeq (by omega) (by omega) (by omega) (by omega) (fun c => ?_) (fun c => ?_)
      · rw [if_pos (by omega)] at h
        exact n_topOf hR hW (by omega) (by omega) (by omega) h
      · rw [if_neg (by omega)] at h
        rw [e2, show (((24 * (aT w k).toNat + (aS w k).toNat) % 24 : Nat) : Int) = aS w k by omega]
        exact h
theorem n_letterValue (hR : RK σ w l) (hW : WF w) (hk : k < 144) {x : Nat} (hx : x < 9) (h : Q (lv w k x) σ) : wp_X4_letterValue σ (jI k) (jI x) Q := by
  unfold wp_X4_letterValue
  unfold lv at h
  refine qeq (by omega) (by omega) (by omega) (by omega) (fun c => ?_) (fun c => ?_)
  · rw [if_pos (by omega)] at h
    exact n_widthOf hR hk h
  rw [if_neg (by omega)] at h
  refine qeq (by omega) (by omega) (by omega) (by omega) (fun c => ?_) (fun c => ?_)
  · rw [if_pos (by omega)] at h
    exact n_heightOf hR hk h
  rw [if_neg (by omega)] at h
  refine n_isThere hR hW hk (qb (fun c => ?_) (fun c => ?_))
  · rw [if_pos c] at h
    exact h
  rw [if_neg (by rw [c]; decide)] at h
  obtain ⟨r6, r7, r8⟩ := (hR.2.1 k hk).2.2 c
  refine qeq (by omega) (by omega) (by omega) (by omega) (fun c => ?_) (fun c => ?_)
  · rw [if_pos (by omega)] at h
    exact alE ((cg σ 6 k hk).trans r6) h
  rw [if_neg (by omega)] at h
  refine qeq (by omega) (by omega) (by omega) (by omega) (fun c => ?_) (fun c => ?_)
  · rw [if_pos (by omega)] at h
    exact alE ((cg σ 7 k hk).trans r7) h
  rw [if_neg (by omega)] at h
  refine qeq (by omega) (by omega) (by omega) (by omega) (fun c => ?_) (fun c => ?_)
  · rw [if_pos (by omega)] at h
    exact alE ((cg σ 8 k hk).trans r8) h
  rw [if_neg (by omega)] at h
  refine n_isLaid hR hW hk (qb (fun c => ?_) (fun c => ?_))
  · rw [if_pos c] at h
    exact h
  rw [if_neg (by rw [c]; decide)] at h
  exact n_placeValue hR hW hk c hx h
theorem m_letterBy (hW : WF (σ.1 0)) (hk : k < 144) {x : Nat} (hx : x < 9) (h : Q (lv (σ.1 0) k x) σ) : wp_X7_letterBy σ (jI k) (jI x) Q := by
  unfold wp_X7_letterBy
  unfold lv at h
  refine qeq (by omega) (by omega) (by omega) (by omega) (fun c => ?_) (fun c => ?_)
  · rw [if_pos (by omega)] at h
    exact qt (jeq c) (m_widthOf hk h)
  have n3 : ¬ jI (x : Int) = jI 3 := jne c
  rw [if_neg (by omega)] at h
  refine qeq (by omega) (by omega) (by omega) (by omega) (fun c => ?_) (fun c => ?_)
  · rw [if_pos (by omega)] at h
    exact qf n3 (m_heightOf hk h)
  have n4 : ¬ jI (x : Int) = jI 4 := jne c
  rw [if_neg (by omega)] at h
  refine m_is hk (qb (fun c => ?_) (fun c => ?_))
  · rw [if_pos c] at h
    exact h
  rw [if_neg (by rw [c]; decide)] at h
  have e5 : ∀ Q' : Int32 → ST → Prop, 5 ≤ x → x < 8 → Q' (σ.1 0 (119 + 6 * k + (x - 2))) σ → wp_X7_of σ (jI k) (jI (x : Int) - jI 2) Q' := fun Q' h1 h2 h3 => by
    rw [jI_sub, show (x : Int) - 2 = ((x - 2 : Nat) : Int) by omega]
    exact m_of hk (by omega) h3
  refine m_isLaid hk (qb (fun cl => ?_) (fun cl => ?_))
  · rw [cl] at h
    refine qlt (by omega) (by omega) (by omega) (by omega) (fun c => ?_) (fun c => ?_)
    · rw [if_neg (by omega), if_neg (by omega), if_neg (by omega), if_pos rfl] at h
      exact h
    refine qeq (by omega) (by omega) (by omega) (by omega) (fun c => ?_) (fun c => ?_)
    · rw [if_neg (by omega), if_neg (by omega), if_neg (by omega), if_pos rfl] at h
      exact h
    refine qf (jne (by omega)) (qf (jne (by omega)) (qf (jne (by omega)) (qf n3 (qf n4 ?_))))
    refine qeq (by omega) (by omega) (by omega) (by omega) (fun c => ?_) (fun c => ?_)
    · rw [if_pos (by omega)] at h
      exact e5 _ (by omega) (by omega) (by rw [show x - 2 = 3 by omega]; exact h)
    rw [if_neg (by omega)] at h
    refine qeq (by omega) (by omega) (by omega) (by omega) (fun c => ?_) (fun c => ?_)
    · rw [if_pos (by omega)] at h
      exact e5 _ (by omega) (by omega) (by rw [show x - 2 = 4 by omega]; exact h)
    rw [if_neg (by omega)] at h
    refine qeq (by omega) (by omega) (by omega) (by omega) (fun c => ?_) (fun c => ?_)
    · rw [if_pos (by omega)] at h
      exact e5 _ (by omega) (by omega) (by rw [show x - 2 = 5 by omega]; exact h)
    exfalso
    omega
  · rw [if_neg (show ¬ isL (σ.1 0) k = false by rw [cl]; decide)] at h
    obtain ⟨h1, h2, h3, h4, h5, h6, h7, h8, h9⟩ := laid_c hW hk cl
    refine qeq (by omega) (by omega) (by omega) (by omega) (fun c => ?_) (fun c => ?_)
    · rw [if_neg (by omega), if_neg (by omega), if_neg (by omega), if_pos (by omega)] at h
      refine m_of (f := 0) hk (by decide) ?_
      rw [gwj (σ.1 0)]
      exact h
    refine qeq (by omega) (by omega) (by omega) (by omega) (fun c => ?_) (fun c => ?_)
    · rw [if_neg (by omega), if_neg (by omega), if_neg (by omega), if_neg (by omega), if_pos (by omega)] at h
      refine m_of (f := 2) hk (by decide) ?_
      rw [gwj (σ.1 0)]
      exact h
    refine qeq (by omega) (by omega) (by omega) (by omega) (fun c => ?_) (fun c => ?_)
    · rw [if_neg (by omega), if_neg (by omega), if_neg (by omega), if_neg (by omega), if_neg (by omega), if_pos (by omega)] at h
      refine m_of (f := 0) hk (by decide) (m_of (f := 1) hk (by decide) ?_)
      rw [gwj (σ.1 0), gwj (σ.1 0)]
      have e1 : gw (σ.1 0) (119 + 6 * k + 0) = (((aT (σ.1 0) k).toNat : Nat) : Int) := by show aT (σ.1 0) k = _; omega
      have e2 : gw (σ.1 0) (119 + 6 * k + 1) = (((aS (σ.1 0) k).toNat : Nat) : Int) := by show aS (σ.1 0) k = _; omega
      rw [e1, e2]
      exact m_top (by omega) (by omega) h
    refine qf n3 (qf n4 ?_)
    refine qeq (by omega) (by omega) (by omega) (by omega) (fun c => ?_) (fun c => ?_)
    · rw [if_pos (by omega)] at h
      exact e5 _ (by omega) (by omega) (by rw [show x - 2 = 3 by omega]; exact h)
    rw [if_neg (by omega)] at h
    refine qeq (by omega) (by omega) (by omega) (by omega) (fun c => ?_) (fun c => ?_)
    · rw [if_pos (by omega)] at h
      exact e5 _ (by omega) (by omega) (by rw [show x - 2 = 4 by omega]; exact h)
    rw [if_neg (by omega)] at h
    refine qeq (by omega) (by omega) (by omega) (by omega) (fun c => ?_) (fun c => ?_)
    · rw [if_pos (by omega)] at h
      exact e5 _ (by omega) (by omega) (by rw [show x - 2 = 5 by omega]; exact h)
    rw [if_neg (by omega), if_neg (by omega), if_neg (by omega), if_neg (by omega)] at h
    refine qt (jeq (by omega)) (m_of (f := 1) hk (by decide) ?_)
    rw [gwj (σ.1 0)]
    exact h
end LET
theorem last_46 : True := trivial

/-! the oldest -/
theorem lpV {wl : Nat → ST → Int32 → Int32 → Prop} {wb : (ST → Int32 → Int32 → Prop) → ST → Int32 → Int32 → Prop} (hw : ∀ n, wl (n + 1) = wb (wl n)) (σ : ST) (N : Nat) (J : Nat → Int32 → Prop) (a0 : Int32) (h0 : J 0 a0) (h : ∀ i a, i ≤ N → J i a → ∀ LL : ST → Int32 → Int32 → Prop, (∀ a', i < N → J (i + 1) a' → LL σ a' (jI ((i + 1 : Nat) : Int))) → wb LL σ a (jI (i : Nat))) : ∃ n, wl n σ a0 (jI 0) := by
  refine lp_inv (α := ST × Int32 × Int32) (L := fun n a => wl n a.1 a.2.1 a.2.2) (B := fun LL a => wb (fun t x y => LL (t, x, y)) a.1 a.2.1 a.2.2) (fun n a => by rw [hw]) (fun i a => a.1 = σ ∧ J i a.2.1 ∧ a.2.2 = jI (i : Nat)) N (fun i a hi ha LL hLL => ?_) (σ, a0, jI 0) ⟨rfl, h0, rfl⟩
  obtain ⟨t, x, y⟩ := a
  obtain ⟨rfl, hJ, rfl⟩ := ha
  exact h i x hi hJ (fun t x y => LL (t, x, y)) (fun a' h1 h2 => hLL _ h1 ⟨rfl, h2, rfl⟩)
def MinJ (w : Wd) (S : Nat → Prop) (a : Int32) : Prop := (a = jI (-1) ∧ ∀ k, ¬ S k) ∨ ∃ k : Nat, a = jI k ∧ k < 144 ∧ S k ∧ ∀ k', S k' → aL w k ≤ aL w k'
theorem MinJ.congr {w : Wd} {S S' : Nat → Prop} {a : Int32} (h : MinJ w S a) (hS : ∀ k, S' k ↔ S k) : MinJ w S' a := by
  rcases h with ⟨h1, h2⟩ | ⟨k, h1, h2, h3, h4⟩
  · exact Or.inl ⟨h1, fun k q => h2 k ((hS k).mp q)⟩
  · exact Or.inr ⟨k, h1, h2, (hS k).mpr h3, fun k' q => h4 k' ((hS k').mp q)⟩
theorem MinJ.take {w : Wd} {S : Nat → Prop} {a : Int32} {x : Nat} (h : MinJ w S a) (hx : x < 144) (hn : a = jI (-1) ∨ ∃ o : Nat, a = jI o ∧ o < 144 ∧ aL w x < aL w o) : MinJ w (fun k => S k ∨ k = x) (jI x) := by
  refine Or.inr ⟨x, rfl, hx, Or.inr rfl, fun k' hk' => ?_⟩
  rcases hk' with hk' | rfl
  · rcases h with ⟨h1, h2⟩ | ⟨k, h1, h2, h3, h4⟩
    · exact absurd hk' (h2 k')
    · rcases hn with hn | ⟨o, hn, ho, hlt⟩
      · rw [h1] at hn
        exact absurd hn (jne (by omega))
      · have e : k = o := by
          have := (jI_eq (a := k) (b := o) (by omega) (by omega) (by omega) (by omega)).mp (h1.symm.trans hn)
          omega
        subst e
        have := h4 k' hk'
        omega
  · exact Int.le_refl _
theorem MinJ.keep {w : Wd} {S : Nat → Prop} {a : Int32} {x : Nat} (h : MinJ w S a) (hn : ∃ o : Nat, a = jI o ∧ o < 144 ∧ aL w o ≤ aL w x) : MinJ w (fun k => S k ∨ k = x) a := by
  obtain ⟨o, hn, ho, hle⟩ := hn
  rcases h with ⟨h1, h2⟩ | ⟨k, h1, h2, h3, h4⟩
  · rw [h1] at hn
    exact absurd hn (jne (by omega))
  · have e : k = o := by
      have := (jI_eq (a := k) (b := o) (by omega) (by omega) (by omega) (by omega)).mp (h1.symm.trans hn)
      omega
    subst e
    refine Or.inr ⟨k, h1, h2, Or.inl h3, fun k' hk' => ?_⟩
    rcases hk' with hk' | rfl
    · exact h4 k' hk'
    · exact hle
theorem MinJ.uniq {w : Wd} (hW : WF w) {S : Nat → Prop} (hS : ∀ k, S k → k < 144 ∧ isP w k = true) {a b : Int32} (h : MinJ w S a) (h' : MinJ w S b) : a = b := by
  rcases h with ⟨h1, h2⟩ | ⟨k, h1, h2, h3, h4⟩
  · rcases h' with ⟨g1, g2⟩ | ⟨k', g1, g2, g3, g4⟩
    · exact h1.trans g1.symm
    · exact absurd g3 (h2 k')
  · rcases h' with ⟨g1, g2⟩ | ⟨k', g1, g2, g3, g4⟩
    · exact absurd h3 (g2 k)
    · have e := hW.2.2.2.2.1.2 k k' h2 g2 (hS k h3).2 (hS k' g3).2 (by have := h4 k' g3; have := g4 k h3; omega)
      rw [h1, g1, e]
section OLD
variable {σ : ST} {w : Wd} {l : List Nat} {k : Nat} {Q : Int32 → ST → Prop}
theorem n_isOlder (hR : RK σ w l) (hk : k < 144) (hp : isP w k = true) {a : Int32} (ha : a = jI (-1) ∨ ∃ o : Nat, a = jI o ∧ o < 144 ∧ isP w o = true) (h1 : (a = jI (-1) ∨ ∃ o : Nat, a = jI o ∧ o < 144 ∧ aL w k < aL w o) → Q (jI 1) σ) (h0 : (∃ o : Nat, a = jI o ∧ o < 144 ∧ aL w o ≤ aL w k) → Q (jI 0) σ) : wp_X4_isOlder σ (jI k) a Q := by
  unfold wp_X4_isOlder
  rcases ha with ha | ⟨o, rfl, ho, hpo⟩
  · exact qt ha (h1 (Or.inl ha))
  · refine qf (jne (by omega)) (alE ((cg σ 6 k hk).trans (((hR.2.1 k hk).2.2 hp).1.trans (gwj w _))) (alE ((cg σ 6 o ho).trans (((hR.2.1 o ho).2.2 hpo).1.trans (gwj w _))) ?_))
    exact qle (gw_lo _ _) (gw_hi _ _) (gw_lo _ _) (gw_hi _ _) (fun c => h0 ⟨o, rfl, ho, c⟩) (fun c => h1 (Or.inr ⟨o, rfl, ho, c⟩))
theorem MinJ.ok {S : Nat → Prop} (hS : ∀ k, S k → k < 144 ∧ isP w k = true) {a : Int32} (h : MinJ w S a) : a = jI (-1) ∨ ∃ o : Nat, a = jI o ∧ o < 144 ∧ isP w o = true := by
  rcases h with ⟨h1, h2⟩ | ⟨k, h1, h2, h3, h4⟩
  · exact Or.inl h1
  · exact Or.inr ⟨k, h1, h2, (hS k h3).2⟩
theorem at_next (l : List Nat) (i k x : Nat) (hi : l[i]? = some x) : (∃ j, j < i + 1 ∧ l[j]? = some k) ↔ ((∃ j, j < i ∧ l[j]? = some k) ∨ k = x) := by
  constructor
  · rintro ⟨j, h1, h2⟩
    by_cases h : j = i
    · subst h
      rw [hi] at h2
      cases h2
      exact Or.inr rfl
    · exact Or.inl ⟨j, by omega, h2⟩
  · rintro (⟨j, h1, h2⟩ | rfl)
    · exact ⟨j, by omega, h2⟩
    · exact ⟨i, by omega, hi⟩
theorem n_oldestLetter (hR : RK σ w l) (h : ∀ a, MinJ w (fun k => k < 144 ∧ isP w k = true) a → Q a σ) : wp_X4_oldestLetter σ Q := by
  unfold wp_X4_oldestLetter
  have hS : ∀ i k, (∃ j, j < i ∧ l[j]? = some k) → k < 144 ∧ isP w k = true := fun i k ⟨j, _, hj⟩ => (hR.at hj).2
  refine lpV (wl := wl_X4_oldestLetter_4 _) (wb := fun LL => wb_X4_oldestLetter_4 _ LL) (fun _ => rfl) σ l.length (fun i a => MinJ w (fun k => ∃ j, j < i ∧ l[j]? = some k) a) (jI (-1)) (Or.inl ⟨rfl, fun k ⟨j, hj, _⟩ => absurd hj (Nat.not_lt_zero j)⟩) (fun i a hi hJ LL hLL => ?_)
  by_cases hil : i < l.length
  · have hi1 := List.getElem?_eq_getElem hil
    obtain ⟨e1, e2, e3⟩ := hR.at hi1
    refine pres hR hi1 (alE e1 (n_isOlder hR e2 e3 (hJ.ok (hS i)) (fun c => ?_) (fun c => ?_)))
    · exact qf (jne (a := 1) (b := 0) (by decide)) (alE (jI_add _ _) (hLL _ hil ((hJ.take e2 c).congr (fun k => at_next l i k _ hi1))))
    · exact qt rfl (alE (jI_add _ _) (hLL _ hil ((hJ.keep c).congr (fun k => at_next l i k _ hi1))))
  · have e : i = l.length := by omega
    subst e
    refine pend hR (h a (hJ.congr (fun k => ?_)))
    rw [← hR.2.2.1.2.2.1 k]
    constructor
    · intro hk
      obtain ⟨j, hj⟩ := List.getElem?_of_mem hk
      exact ⟨j, (List.getElem?_eq_some_iff.mp hj).1, hj⟩
    · rintro ⟨j, _, hj⟩
      exact List.mem_of_getElem? hj
theorem m_oldestOne (h : ∀ a, MinJ (σ.1 0) (fun k => k < 144 ∧ isP (σ.1 0) k = true) a → (a = jI (-1) → Q (jI (-1)) σ) ∧ ∀ k : Nat, a = jI k → k < 144 → Q (jI (cod k)) σ) : wp_X7_oldestOne σ Q := by
  unfold wp_X7_oldestOne
  refine lpV (wl := wl_X7_oldestOne_4 _) (wb := fun LL => wb_X7_oldestOne_4 _ LL) (fun _ => rfl) σ 144 (fun i a => MinJ (σ.1 0) (fun k => k < i ∧ k < 144 ∧ isP (σ.1 0) k = true) a) (jI (-1)) (Or.inl ⟨rfl, fun k q => absurd q.1 (Nat.not_lt_zero k)⟩) (fun i a hi hJ LL hLL => ?_)
  by_cases hil : i < 144
  · refine rnot hil (m_is hil (qb (fun c => ?_) (fun c => ?_)))
    · refine alE (jI_add _ _) (hLL _ hil (hJ.congr (fun k => ⟨fun q => ⟨?_, q.2⟩, fun q => ⟨by omega, q.2⟩⟩)))
      have : k ≠ i := fun z => by subst z; rw [c] at q; exact absurd q.2.2 (by decide)
      omega
    · have hcg : ∀ k, (k < i + 1 ∧ k < 144 ∧ isP (σ.1 0) k = true) ↔ ((k < i ∧ k < 144 ∧ isP (σ.1 0) k = true) ∨ k = i) := fun k => by
        constructor
        · intro q
          by_cases hk : k = i
          · exact Or.inr hk
          · exact Or.inl ⟨by omega, q.2⟩
        · rintro (q | rfl)
          · exact ⟨by omega, q.2⟩
          · exact ⟨by omega, hil, c⟩
      rcases hJ.ok (fun k q => q.2) with ha | ⟨o, ha, ho, hpo⟩
      · exact qt ha (alE (jI_add _ _) (hLL _ hil ((hJ.take hil (Or.inl ha)).congr hcg)))
      · subst ha
        refine qf (jne (by omega)) (m_of (f := 3) hil (by decide) (m_of (f := 3) ho (by decide) ?_))
        rw [gwj (σ.1 0) (119 + 6 * i + 3), gwj (σ.1 0) (119 + 6 * o + 3)]
        refine qle (gw_lo _ _) (gw_hi _ _) (gw_lo _ _) (gw_hi _ _) (fun d => ?_) (fun d => ?_)
        · exact alE (jI_add _ _) (hLL _ hil ((hJ.keep ⟨o, rfl, ho, d⟩).congr hcg))
        · exact alE (jI_add _ _) (hLL _ hil ((hJ.take hil (Or.inr ⟨o, rfl, ho, d⟩)).congr hcg))
  · have e : i = 144 := by omega
    subst e
    have h9 := h a (hJ.congr (fun k => ⟨fun q => ⟨q.1, q⟩, fun q => q.2⟩))
    refine rend ⟨h9.1, fun c => ?_⟩
    rcases hJ.ok (fun k q => q.2) with ha | ⟨o, ha, ho, hpo⟩
    · exact absurd ha c
    · rw [ha]
      exact m_codeOf ho (h9.2 o ha ho)
end OLD
theorem s_oldest : st_oldest Inv := by
  intro n σ μ hn hI
  have hI' := hI
  obtain ⟨hW, hcl, ⟨l, hR⟩, -⟩ := hI'
  unfold wp_X6_oldest
  refine n_oldestLetter hR (fun a ha => ?_)
  have hm : ∀ z : Int32, (a = jI (-1) → z = jI (-1)) → (∀ k : Nat, a = jI k → k < 144 → z = jI (cod k)) → wp_X7_oldest μ (fun r2 μ2 => z = r2 ∧ Inv (n + 1) σ μ2) := by
    intro z h1 h2
    unfold wp_X7_oldest
    refine al (m_oldestOne (fun b hb => ?_))
    have e : a = b := MinJ.uniq hW (fun k q => q) ha hb
    subst e
    exact ⟨fun c => ⟨h1 c, hI.next (same_rf σ) (sameM_th μ 1 _ (by decide) (by decide))⟩, fun k c hk => ⟨h2 k c hk, hI.next (same_rf σ) (sameM_th μ 1 _ (by decide) (by decide))⟩⟩
  rcases ha.ok (fun k q => q) with h1 | ⟨o, h1, ho, hpo⟩
  · rw [h1]
    exact n_codeN (hm _ (fun _ => rfl) (fun k c hk => absurd (h1.symm.trans c) (jne (by omega))))
  · rw [h1]
    refine n_codeOf ho (hm _ (fun c => absurd (h1.symm.trans c) (jne (by omega))) (fun k c hk => ?_))
    have e := (jI_eq (a := o) (b := k) (by omega) (by omega) (by omega) (by omega)).mp (h1.symm.trans c)
    rw [show o = k by omega]
theorem last_53 : True := trivial

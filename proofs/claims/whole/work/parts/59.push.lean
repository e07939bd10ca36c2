/-! the class saves -/
/-- a state with block k2 copied over block k1 -/
def Copied (σ σ' : ST) (k1 k2 : Nat) : Prop := (∀ j p : Nat, j < 10 → p < zlen (10 * k1 + j) → σ'.1 (10 * k1 + j) p = σ.1 (10 * k2 + j) p) ∧ (∀ j : Nat, j < 8 → σ'.2 (8 * k1 + j) = σ.2 (8 * k2 + j)) ∧ (∀ r : Nat, (∀ j, j < 10 → r ≠ 10 * k1 + j) → σ'.1 r = σ.1 r) ∧ ∀ c : Nat, (∀ j, j < 8 → c ≠ 8 * k1 + j) → σ'.2 c = σ.2 c
/-- the first n rows, the first m numbers are copied -/
def CopyTo (σ σ' : ST) (k1 k2 n m : Nat) : Prop := (∀ j p : Nat, j < n → p < zlen (10 * k1 + j) → σ'.1 (10 * k1 + j) p = σ.1 (10 * k2 + j) p) ∧ (∀ j : Nat, j < m → σ'.2 (8 * k1 + j) = σ.2 (8 * k2 + j)) ∧ (∀ r : Nat, (∀ j, j < n → r ≠ 10 * k1 + j) → σ'.1 r = σ.1 r) ∧ ∀ c : Nat, (∀ j, j < m → c ≠ 8 * k1 + j) → σ'.2 c = σ.2 c
theorem CopyTo.z (σ : ST) (k1 k2 : Nat) : CopyTo σ σ k1 k2 0 0 := ⟨fun j _ hj => absurd hj (Nat.not_lt_zero j), fun j hj => absurd hj (Nat.not_lt_zero j), fun _ _ => rfl, fun _ _ => rfl⟩
theorem zcr_1 (σ : ST) (a b : Nat) (p : Nat) (h : p < zlen a) : (zcr σ a b).1 a p = σ.1 b p := by
  unfold zcr
  dsimp only
  rw [if_pos rfl]
  unfold va_cpy
  rw [if_pos (by omega)]
  exact congrArg _ (by omega)
theorem zcr_o (σ : ST) (a b r : Nat) (h : r ≠ a) : (zcr σ a b).1 r = σ.1 r := if_neg h
theorem CopyTo.row {σ s : ST} {k1 k2 n : Nat} (hk : k1 ≠ k2) (hn : n < 10) (h : CopyTo σ s k1 k2 n 0) : CopyTo σ (zcr s (10 * k1 + n) (10 * k2 + n)) k1 k2 (n + 1) 0 := by
  obtain ⟨h1, h2, h3, h4⟩ := h
  refine ⟨fun j p hj hp => ?_, fun j hj => absurd hj (Nat.not_lt_zero j), fun r hr => ?_, fun c hc => h4 c hc⟩
  · by_cases hjn : j = n
    · subst hjn
      rw [zcr_1 _ _ _ _ hp, h3 (10 * k2 + j) (fun i hi => by omega)]
    · rw [zcr_o _ _ _ _ (by omega)]
      exact h1 j p (by omega) hp
  · rw [zcr_o _ _ _ _ (hr n (by omega))]
    exact h3 r (fun j hj => hr j (by omega))
theorem CopyTo.num {σ s : ST} {k1 k2 m : Nat} (hk : k1 ≠ k2) (hm : m < 8) (h : CopyTo σ s k1 k2 10 m) : CopyTo σ (zsp s (8 * k1 + m) (s.2 (8 * k2 + m))) k1 k2 10 (m + 1) := by
  obtain ⟨h1, h2, h3, h4⟩ := h
  refine ⟨h1, fun j hj => ?_, h3, fun c hc => ?_⟩
  · by_cases hjm : j = m
    · subst hjm
      rw [zsp_at]
      exact h4 _ (fun i hi => by omega)
    · rw [zsp_nq (by omega)]
      exact h2 j (by omega)
  · rw [zsp_nq (hc m (by omega))]
    exact h4 c (fun j hj => hc j (by omega))
theorem n_copyFrom {σ : ST} {Q : ST → Prop} {k1 k2 : Nat} (hk : k1 ≠ k2) (h : ∀ σ', Copied σ σ' k1 k2 → Q σ') : wp_X4_copyFrom σ k1 k2 Q := by
  unfold wp_X4_copyFrom
  refine al (al (al (al (al (al (al (al (al (al (al (al (al (al (al (al (al (al (h _ ?_))))))))))))))))))
  have c0 := CopyTo.z σ k1 k2
  have c10 := ((((((((((c0.row hk (by decide)).row hk (by decide)).row hk (by decide)).row hk (by decide)).row hk (by decide)).row hk (by decide)).row hk (by decide)).row hk (by decide)).row hk (by decide)).row hk (by decide))
  exact ((((((((c10.num hk (by decide)).num hk (by decide)).num hk (by decide)).num hk (by decide)).num hk (by decide)).num hk (by decide)).num hk (by decide)).num hk (by decide))
/-- the ring behind a push: f and m before it -/
def Pushed (σ σ' : ST) (f m : Nat) : Prop := ∃ s : ST, Copied σ s ((f + m) % 4 + 1) 0 ∧ (∀ r, σ'.1 r = s.1 r) ∧ (∀ c, c ≠ 40 → c ≠ 41 → σ'.2 c = s.2 c) ∧ σ'.2 40 = jI (((if m < 4 then f else (f + 1) % 4 : Nat)) : Int) ∧ σ'.2 41 = jI ((min (m + 1) 4 : Nat) : Int)
theorem n_push {σ : ST} {Q : ST → Prop} {f m : Nat} (hf : f < 4) (hm : m ≤ 4) (h0 : σ.2 40 = jI (f : Nat)) (h1 : σ.2 41 = jI (m : Nat)) (h : ∀ σ', Pushed σ σ' f m → Q σ') : wp_X5_push σ Q := by
  unfold wp_X5_push
  refine ⟨(f + m) % 4, Nat.mod_lt _ (by decide), ?_, n_copyFrom (by omega) (fun s hs => ?_)⟩
  · rw [h0, h1, jI_add]
    exact jr (k := f + m) (d := 4) (by omega) (by decide) (by decide)
  · have e0 : s.2 40 = jI (f : Nat) := (hs.2.2.2 40 (fun j hj => by omega)).trans h0
    have e1 : s.2 41 = jI (m : Nat) := (hs.2.2.2 41 (fun j hj => by omega)).trans h1
    rw [e1]
    refine qle (by decide) (by decide) (by omega) (by omega) (fun c => ?_) (fun c => ?_)
    · refine al (h _ ⟨s, hs, fun _ => rfl, fun c hc _ => zsp_nq hc, ?_, ?_⟩)
      · rw [zsp_at, e0, jI_add, if_neg (by omega)]
        exact jr (k := f + 1) (d := 4) (by omega) (by decide) (by decide)
      · rw [zsp_nq (by decide), e1]
        exact jeq (by omega)
    · refine al (h _ ⟨s, hs, fun _ => rfl, fun c _ hc => zsp_nq hc, ?_, ?_⟩)
      · rw [zsp_nq (by decide), e0, if_pos (by omega)]
      · rw [zsp_at, jI_add]
        exact jeq (by omega)
theorem last_59 : True := trivial

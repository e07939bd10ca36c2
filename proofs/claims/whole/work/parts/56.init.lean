/-! the invariant behind the constructors -/
theorem g2_L (k : Nat) (hk : k < 144) : g2 144 (119 + 6 * k) = jI (-1) := if_pos ⟨by omega, by omega, by omega⟩
theorem g2_lo (i : Nat) (hi : i < 119) : g2 144 i = g1 32 i := if_neg (by omega)
theorem g2_0v : g2 144 0 = jI 1 := by rw [g2_lo 0 (by decide)]; exact if_pos rfl
theorem g2_w (i : Nat) (h1 : 12 ≤ i) (h2 : i < 44) : g2 144 i = jI 2 := by
  rw [g2_lo i (by omega)]
  unfold g1
  rw [if_neg (by omega), if_pos (by omega)]
theorem g2_z (i : Nat) (h0 : i ≠ 0) (h1 : ¬ (12 ≤ i ∧ i < 44)) (h2 : i < 119) : g2 144 i = jI 0 := by
  rw [g2_lo i h2]
  unfold g1
  rw [if_neg h0, if_neg (by omega)]
  exact z0
theorem sM0_w : sM0.1 0 = g2 144 := (if_pos rfl : (if (0 : Nat) = 0 then g2 144 else fun _ => 0) = g2 144)
theorem gw_jI {w : Wd} {i : Nat} {a : Int} (h : w i = jI a) (h1 : -2147483648 ≤ a := by decide) (h2 : a < 2147483648 := by decide) : gw w i = a := by
  unfold gw
  rw [h]
  exact jI_toInt h1 h2
theorem aT0 (k : Nat) (hk : k < 144) : aT (g2 144) k = -1 := gw_jI (g2_L k hk)
theorem isP0 (k : Nat) (hk : k < 144) : isP (g2 144) k = false := bo_f (fun q => q (aT0 k hk))
theorem isL0 (k : Nat) (hk : k < 144) : isL (g2 144) k = false := isL_P (isP0 k hk)
theorem nT0 : nT (g2 144) = 1 := gw_jI g2_0v
theorem nS0 : nS (g2 144) 0 = 0 := gw_jI (g2_z 44 (by decide) (by decide) (by decide))
theorem many0 : gw (g2 144) 7 = 0 := gw_jI (g2_z 7 (by decide) (by decide) (by decide))
theorem strt0 : strt (g2 144) = [] := by
  unfold strt
  rw [many0]
  rfl
theorem WF0 : WF (g2 144) := by
  refine ⟨⟨by rw [nT0]; decide, by rw [nT0]; decide, fun s hs => ?_, fun s hs => ?_⟩, fun t ht => ?_, fun k hk => Or.inl (aT0 k hk), fun k k' hk hk' _ hl => ?_, ⟨fun k hk hp => ?_, fun k k' hk hk' hp => ?_⟩, ⟨by rw [many0]; decide, by rw [many0]; decide, fun i hi => ?_, by rw [strt0]; exact List.nodup_nil, fun k => ?_⟩⟩
  · rw [gw_jI (g2_w (12 + s) (by omega) (by omega))]; decide
  · rw [gw_jI (g2_w (28 + s) (by omega) (by omega))]; decide
  · rw [nT0] at ht
    have e : t = 0 := by omega
    subst e
    rw [nS0]
    refine ⟨by decide, by decide, fun s hs => by omega, ?_⟩
    show (0 : Int) ≤ 24
    decide
  · rw [isL0 k hk] at hl; cases hl
  · rw [isP0 k hk] at hp; cases hp
  · rw [isP0 k hk] at hp; cases hp
  · rw [many0] at hi; omega
  · rw [strt0]
    constructor
    · intro h; cases h
    · intro ⟨h1, h2⟩
      rw [aT0 k h1] at h2
      exact absurd h2 (by decide)
theorem sC0_r (r : Nat) (h : r < 50) : sC0.1 r = gC (r % 10) := if_pos h
theorem RK0 : RK sC0 (g2 144) [] := by
  refine ⟨⟨fun s hs => ?_, fun s hs => ?_, fun t s ht hs => ?_⟩, fun k hk => ⟨?_, fun hl => ?_, fun hp => ?_⟩, ⟨fun i k hi => by simp at hi, List.nodup_nil, fun k => ⟨fun h => by simp at h, fun h => ?_⟩, by rw [strt0]; rfl⟩, ?_, ?_, ?_, ?_, ?_, ?_, ?_, ?_⟩
  · rw [sC0_r 0 (by decide), g2_w (12 + s) (by omega) (by omega)]
    exact if_pos hs
  · rw [sC0_r 1 (by decide), g2_w (28 + s) (by omega) (by omega)]
    exact if_pos hs
  · rw [if_neg, sC0_r 2 (by decide)]
    · exact z0
    · intro ⟨h1, h2⟩
      rw [nT0] at h1
      have e : t = 0 := by omega
      subst e
      rw [nS0] at h2
      omega
  · rw [sC0_r 3 (by decide), show slo (g2 144) k = -2 from if_pos (aT0 k hk)]
    exact if_pos hk
  · rw [isL0 k hk] at hl; cases hl
  · rw [isP0 k hk] at hp; cases hp
  · obtain ⟨h1, h2⟩ := h
    rw [isP0 k h1] at h2; cases h2
  · rfl
  · rw [g2_0v]; rfl
  · rw [g2_z 1 (by decide) (by decide) (by decide)]; rfl
  · rw [g2_z 2 (by decide) (by decide) (by decide)]; rfl
  · rw [g2_z 3 (by decide) (by decide) (by decide)]; rfl
  · rw [g2_z 4 (by decide) (by decide) (by decide)]; rfl
  · rw [g2_z 5 (by decide) (by decide) (by decide)]; rfl
  · rw [g2_z 6 (by decide) (by decide) (by decide)]; rfl
theorem Inv0 : Inv 0 sC0 sM0 := by
  refine ⟨by rw [sM0_w]; exact WF0, ?_, ⟨[], by rw [sM0_w]; exact RK0⟩, ⟨0, 0, by decide, by decide, rfl, rfl, z0, fun i hi => absurd hi (Nat.not_lt_zero i)⟩, ⟨0, by decide, rfl, z0, fun i hi => absurd hi (Nat.not_lt_zero i)⟩⟩
  rw [sM0_w, gw_jI (g2_z 2 (by decide) (by decide) (by decide))]
  decide
theorem s_none : ∀ (n : Nat) (σ μ : ST), n < 512 → Inv n σ μ → Inv (n + 1) σ μ := fun n σ μ _ h => h.next (same_rf σ) ⟨rfl, rfl, rfl, rfl, rfl⟩
theorem last_56 : True := trivial

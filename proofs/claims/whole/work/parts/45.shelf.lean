/-! the shelves, as the class has them -/
def hsv (w : Wd) (t s : Nat) : Int := if (t : Int) < nT w ∧ (s : Int) < nS w t then tl w t s else 0
section SHELF
variable {σ : ST} {w : Wd} {l : List Nat} {t s : Nat} {Q : Int32 → ST → Prop}
theorem RK.sh (hR : RK σ w l) (ht : t < 3) (hs : s < 24) : zrg σ 2 (jI ((24 * t + s : Nat) : Int)) = jI (hsv w t s) := by
  rw [cg σ 2 (24 * t + s) (by show 24 * t + s < 72; omega), hR.1.2.2 t s ht hs]
  unfold hsv
  by_cases h : (t : Int) < nT w ∧ (s : Int) < nS w t
  · rw [if_pos h, if_pos h]
    exact gwj w _
  · rw [if_neg h, if_neg h]
theorem hsv_in (hW : WF w) (h : (t : Int) < nT w) (hs : (s : Int) < nS w t) : hsv w t s = tl w t s ∧ 1 ≤ tl w t s ∧ tl w t s ≤ 24 := ⟨if_pos ⟨h, hs⟩, (hW.2.1 t h).2.2.1 s hs⟩
theorem hsv_out (hs : ¬ (s : Int) < nS w t) : hsv w t s = 0 := if_neg (fun q => hs q.2)
theorem hsv_b (hW : WF w) : 0 ≤ hsv w t s ∧ hsv w t s ≤ 24 := by
  unfold hsv
  split
  · next h =>
    have := (hW.2.1 t h.1).2.2.1 s h.2
    omega
  · omega
def tpm (w : Wd) (t i : Nat) : Int := topH w t (min i (nS w t).toNat)
theorem tpm_next (hW : WF w) (h : (t : Int) < nT w) (i : Nat) : tpm w t (i + 1) = tpm w t i + hsv w t i := by
  have h1 := hW.2.1 t h
  unfold tpm
  by_cases hi : (i : Int) < nS w t
  · rw [show min (i + 1) (nS w t).toNat = i + 1 by omega, show min i (nS w t).toNat = i by omega, (hsv_in hW h hi).1]
    rfl
  · rw [show min (i + 1) (nS w t).toNat = (nS w t).toNat by omega, show min i (nS w t).toNat = (nS w t).toNat by omega, hsv_out hi]
    omega
theorem topH_mono (hW : WF w) (h : (t : Int) < nT w) (i : Nat) : ∀ j : Nat, (((i + j : Nat) : Int) ≤ nS w t) → topH w t i + j ≤ topH w t (i + j) := by
  intro j
  induction j with
  | zero => intro _; simp
  | succ j ih =>
    intro hj
    have h1 := ih (by omega)
    have h2 := (hsv_in hW h (s := i + j) (by omega)).2.1
    show topH w t i + _ ≤ topH w t (i + j) + tl w t (i + j)
    push_cast
    omega
theorem topH_b (hW : WF w) (h : (t : Int) < nT w) (i : Nat) (hi : (i : Int) ≤ nS w t) : (i : Int) ≤ topH w t i ∧ topH w t i ≤ 24 := by
  have h1 := hW.2.1 t h
  have h2 := topH_mono hW h i ((nS w t).toNat - i) (by omega)
  have h3 := topH_mono hW h 0 i (by omega)
  rw [show i + ((nS w t).toNat - i) = (nS w t).toNat by omega] at h2
  rw [Nat.zero_add, show topH w t 0 = 0 from rfl] at h3
  omega
theorem tpm_b (hW : WF w) (h : (t : Int) < nT w) (i : Nat) : 0 ≤ tpm w t i ∧ tpm w t i ≤ 24 := by
  have h1 := hW.2.1 t h
  have h2 := topH_b hW h (min i (nS w t).toNat) (by omega)
  unfold tpm
  omega
theorem n_heightOfShelf (hR : RK σ w l) (ht : t < 3) (hs : s < 24) (h : Q (jI (hsv w t s)) σ) : wp_X4_heightOfShelf σ (jI ((24 * t + s : Nat) : Int)) Q := alE (hR.sh ht hs) h
theorem n_countShelves (hR : RK σ w l) (hW : WF w) (h0 : (t : Int) < nT w) (h : Q (jI (nS w t)) σ) : wp_X4_countShelves σ (jI (t : Nat)) Q := by
  have h1 := hW.2.1 t h0
  have ht : t < 3 := by have := hW.1.2.1; omega
  unfold wp_X4_countShelves
  refine alE (b := jI ((24 * t : Nat) : Int)) ((jI_mul _ _).trans (jeq (by omega))) ?_
  refine lpA (wl := wl_X4_countShelves_7 _ _) (wb := fun LL => wb_X4_countShelves_7 _ LL _) (fun _ => rfl) (fun _ => σ) (fun i => jI ((min i (nS w t).toNat : Nat) : Int)) (24 * t) 24 (fun i hi LL hLL => ?_)
  unfold wb_X4_countShelves_7
  rw [jI_mul, jI_add]
  refine qle (by omega) (by omega) (by omega) (by omega) (fun c => ?_) (fun c => ?_)
  · rw [show ((min i (nS w t).toNat : Nat) : Int) = nS w t by omega]
    exact h
  · have hi2 : i < 24 := by omega
    have h9 := hLL hi2
    refine alE (hR.sh ht hi2) ?_
    by_cases hs : (i : Int) < nS w t
    · obtain ⟨e1, e2, e3⟩ := hsv_in hW h0 hs
      rw [e1]
      refine qf (jnle (by omega)) (alE (jI_add _ _) (alE (jI_add _ _) ?_))
      rw [show min (i + 1) (nS w t).toNat = min i (nS w t).toNat + 1 by omega] at h9
      exact h9
    · rw [hsv_out hs]
      refine qt (jle (by omega)) (alE (jI_add _ _) ?_)
      rw [show min (i + 1) (nS w t).toNat = min i (nS w t).toNat by omega] at h9
      exact h9
theorem n_heightOfShelves (hR : RK σ w l) (hW : WF w) (h0 : (t : Int) < nT w) (h : Q (jI (topH w t (nS w t).toNat)) σ) : wp_X4_heightOfShelves σ (jI (t : Nat)) Q := by
  have h1 := hW.2.1 t h0
  have ht : t < 3 := by have := hW.1.2.1; omega
  unfold wp_X4_heightOfShelves
  refine alE (b := jI ((24 * t : Nat) : Int)) ((jI_mul _ _).trans (jeq (by omega))) ?_
  refine lpA (wl := wl_X4_heightOfShelves_7 _ _) (wb := fun LL => wb_X4_heightOfShelves_7 _ LL _) (fun _ => rfl) (fun _ => σ) (fun i => jI (tpm w t i)) (24 * t) 24 (fun i hi LL hLL => ?_)
  unfold wb_X4_heightOfShelves_7
  rw [jI_mul, jI_add]
  refine qle (by omega) (by omega) (by omega) (by omega) (fun c => ?_) (fun c => ?_)
  · rw [show tpm w t i = topH w t (nS w t).toNat by unfold tpm; rw [show min i (nS w t).toNat = (nS w t).toNat by omega]]
    exact h
  · have hi2 : i < 24 := by omega
    have h9 := hLL hi2
    refine alE (hR.sh ht hi2) (alE (jI_add _ _) (alE (jI_add _ _) ?_))
    rw [tpm_next hW h0] at h9
    exact h9
theorem n_topOf (hR : RK σ w l) (hW : WF w) (h0 : (t : Int) < nT w) (hs : (s : Int) ≤ nS w t) (hs2 : s < 24) (h : Q (jI (topH w t s)) σ) : wp_X4_topOf σ (jI ((24 * t + s : Nat) : Int)) Q := by
  have h1 := hW.2.1 t h0
  have ht : t < 3 := by have := hW.1.2.1; omega
  unfold wp_X4_topOf
  have e1 : jI ((24 * t + s : Nat) : Int) / jI 24 = jI (((24 * t + s) / 24 : Nat) : Int) := jd (d := 24) (by omega) (by decide) (by decide)
  refine alE (b := jI ((24 * t : Nat) : Int)) (by rw [e1, jI_mul]; exact jeq (by omega)) ?_
  refine lpA (wl := wl_X4_topOf_10 _ _) (wb := fun LL => wb_X4_topOf_10 _ LL _) (fun _ => rfl) (fun _ => σ) (fun i => jI (topH w t i)) (24 * t) s (fun i hi LL hLL => ?_)
  unfold wb_X4_topOf_10
  refine qle (by omega) (by omega) (by omega) (by omega) (fun c => ?_) (fun c => ?_)
  · have e : i = s := by omega
    subst e
    exact h
  · have hi2 : i < s := by omega
    have h9 := hLL hi2
    refine alE (hR.sh ht (by omega)) (alE (jI_add _ _) (alE (jI_add _ _) ?_))
    rw [(hsv_in hW h0 (by omega)).1]
    exact h9
end SHELF
theorem last_45 : True := trivial

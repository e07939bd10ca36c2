/-! whole -/
theorem sm_swap (m : Nat) (l : List Nat) (f : Nat → Nat → Int) : sm (List.range m) (fun t => sm l (f t)) = sm l (fun k => sm (List.range m) (fun t => f t k)) := by
  induction m with
  | zero => exact (sm_zero l _ (fun k _ => rfl)).symm
  | succ m ih =>
    rw [sm_range, ih, ← sm_add]
    exact sm_congr _ _ _ (fun k _ => (sm_range m (fun t => f t k)).symm)
theorem sm_pick (m : Nat) (a A : Int) : sm (List.range m) (fun t => if decide (a = (t : Int)) then A else 0) = if 0 ≤ a ∧ a < m then A else 0 := by
  induction m with
  | zero => rw [if_neg (by omega)]; rfl
  | succ m ih =>
    rw [sm_range, ih]
    by_cases h : a = (m : Int)
    · rw [if_neg (by omega), if_pos (bo_t h), if_pos (by omega)]
      omega
    · rw [if_neg (show ¬ decide (a = (m : Int)) = true by rw [bo_f h]; decide)]
      by_cases h2 : 0 ≤ a ∧ a < m
      · rw [if_pos h2, if_pos (by omega)]
        omega
      · rw [if_neg h2, if_neg (by omega)]
        omega
theorem sm_count (l : List Nat) (p : Nat → Bool) : sm l (fun k => bI (p k)) = (l.countP p : Nat) := by
  induction l with
  | nil => rfl
  | cons x l ih =>
    show bI (p x) + sm l _ = _
    rw [ih, List.countP_cons]
    cases p x
    · show 0 + _ = _
      simp
    · show 1 + _ = _
      simp
      omega
def tvI (w : Wd) (t x : Nat) : Int := if x = 0 then nS w t else if x = 1 then topH w t (nS w t).toNat else if x = 2 then sA (fun k => bI (inT w k t)) else sA (fun k => if inT w k t then wdt w k * hgt w k else 0)
theorem tv_I (w : Wd) (t x : Nat) : tv w t x = jI (tvI w t x) := by
  unfold tv tvI
  split
  · rfl
  · split
    · rfl
    · split <;> rfl
section WHO
variable {σ : ST} {w : Wd} {l : List Nat} {k : Nat} {Q : Int32 → ST → Prop}
theorem sS_many (hR : RK σ w l) (hW : WF w) : sA (fun k => bI (isS w k)) = gw w 7 := by
  rw [← sm_present hR.2.2.1 (fun k => bI (isS w k)) (fun k _ hp => by rw [isS_P hp]; rfl), sm_count, List.countP_eq_length_filter]
  have h := hR.2.2.1.2.2.2
  rw [isS_eq] at h
  rw [h]
  exact strt_len hW
theorem sL_trays (hW : WF w) (f : Nat → Int) : sA (fun k => if isL w k then f k else 0) = sm (List.range (nT w).toNat) (fun t => sA (fun k => if inT w k t then f k else 0)) := by
  unfold sA
  rw [sm_swap]
  refine sm_congr _ _ _ (fun k hk => ?_)
  have h := sm_pick (nT w).toNat (aT w k) (f k)
  have e : (fun t : Nat => if decide (aT w k = (t : Int)) then f k else 0) = (fun t => if inT w k t then f k else 0) := rfl
  rw [e] at h
  rw [h]
  have h1 := hW.1.1
  rcases hW.2.2.1 k (List.mem_range.mp hk) with h2 | h2 | h2
  · rw [if_neg (show ¬ isL w k = true by rw [show isL w k = false from bo_f (by omega)]; decide), if_neg (by omega)]
  · have h3 := hW.1.2.1
    rw [if_neg (show ¬ isL w k = true by rw [show isL w k = false from bo_f (by omega)]; decide), if_neg (by omega)]
  · have h3 := hW.1.2.1
    rw [if_pos (show isL w k = true from bo_t (by omega)), if_pos (by omega)]
theorem sP_len (hR : RK σ w l) (hW : WF w) : (l.length : Int) - sA (fun k => bI (isS w k)) = sm (List.range (nT w).toNat) (fun t => sA (fun k => bI (inT w k t))) := by
  have h1 := sL_trays hW (fun _ => 1)
  have e1 : (fun t => sA (fun k => if inT w k t then (1 : Int) else 0)) = (fun t => sA (fun k => bI (inT w k t))) := rfl
  rw [e1] at h1
  rw [← h1]
  have h2 : (l.length : Int) = sA (fun k => bI (isP w k)) := by
    rw [← sm_present hR.2.2.1 (fun k => bI (isP w k)) (fun k _ hp => by rw [hp]; rfl), sm_count]
    rw [List.countP_eq_length.mpr (fun k hk => ((hR.2.2.1.2.2.1 k).mp hk).2)]
  rw [h2]
  have h3 : sA (fun k => bI (isP w k)) = sA (fun k => bI (isS w k)) + sA (fun k => if isL w k then (1 : Int) else 0) := by
    unfold sA
    rw [← sm_add]
    refine sm_congr _ _ _ (fun k hk => ?_)
    rcases slo_c hW (List.mem_range.mp hk) with ⟨q1, _⟩ | ⟨q1, _⟩ | ⟨q1, q2, _⟩
    · rw [show isP w k = false from bo_f (by omega), show isS w k = false from bo_f (by omega), show isL w k = false from bo_f (by omega)]; rfl
    · rw [show isP w k = true from bo_t (by omega), show isS w k = true from bo_t (by omega), show isL w k = false from bo_f (by omega)]; rfl
    · rw [show isP w k = true from bo_t (by omega), show isS w k = false from bo_f (by omega), show isL w k = true from bo_t (by omega)]; rfl
  omega
theorem n_countAllShelves (hR : RK σ w l) (hW : WF w) (h : Q (jI (sm (List.range (nT w).toNat) (fun t => nS w t))) σ) : wp_X4_countAllShelves σ Q := by
  have h1 := hW.1.1
  have h2 := hW.1.2.1
  have e : σ.2 1 = jI (nT w) := hR.2.2.2.2.1.trans (gwj w 0)
  unfold wp_X4_countAllShelves
  refine lpA (wl := wl_X4_countAllShelves_4 _) (wb := fun LL => wb_X4_countAllShelves_4 _ LL) (fun _ => rfl) (fun _ => σ) (fun i => jI (sm (List.range i) (fun t => nS w t))) 0 (nT w).toNat (fun i hi LL hLL => ?_)
  unfold wb_X4_countAllShelves_4
  rw [e, Nat.zero_add]
  refine qle (by omega) (by omega) (by omega) (by omega) (fun c => ?_) (fun c => ?_)
  · rw [show i = (nT w).toNat by omega]
    exact h
  · have h9 := hLL (by omega)
    rw [Nat.zero_add, sm_range, ← jI_add] at h9
    exact n_countShelves hR hW c (alE rfl (alE (jI_add _ _) h9))
theorem m_sumOf (hW : WF (σ.1 0)) {x : Nat} (hx : x < 4) (h : Q (jI (sm (List.range (nT (σ.1 0)).toNat) (fun t => tvI (σ.1 0) t x))) σ) : wp_X7_sumOf σ (jI x) Q := by
  have h1 := hW.1.1
  have h2 := hW.1.2.1
  unfold wp_X7_sumOf
  refine lpA (wl := wl_X7_sumOf_4 _ _) (wb := fun LL => wb_X7_sumOf_4 _ LL _) (fun _ => rfl) (fun _ => σ) (fun i => jI (sm (List.range i) (fun t => tvI (σ.1 0) t x))) 0 (nT (σ.1 0)).toNat (fun i hi LL hLL => ?_)
  unfold wb_X7_sumOf_4
  refine m_rd 0 rfl (by decide) (by decide) ?_
  rw [gwj (σ.1 0) 0, Nat.zero_add]
  refine qle (gw_lo _ _) (gw_hi _ _) (by omega) (by omega) (fun c => ?_) (fun c => ?_)
  · rw [show i = (nT (σ.1 0)).toNat by unfold nT at *; omega]
    exact h
  · have h9 := hLL (by unfold nT at *; omega)
    rw [Nat.zero_add, sm_range, ← jI_add] at h9
    refine m_trayBy hW c hx ?_
    rw [tv_I]
    exact alE rfl (alE (jI_add _ _) h9)
def wv (w : Wd) (x : Nat) : Int32 := if x = 0 then w 0 else if x = 1 then jI (sm (List.range (nT w).toNat) (fun t => nS w t)) else if x = 2 then jI (sm (List.range (nT w).toNat) (fun t => sA (fun k => bI (inT w k t)))) else if x = 3 then w 7 else if x < 10 then w (x - 3) else if x = 10 then jI (sA (fun k => bI (isNw w k))) else jI (sA (fun k => if isL w k then wdt w k * hgt w k else 0))
theorem n_wholeValue (hR : RK σ w l) (hW : WF w) {x : Nat} (hx : x < 12) (h : Q (wv w x) σ) : wp_X4_wholeValue σ (jI x) Q := by
  obtain ⟨g0, g1, g2, g3, g4, g5, g6, g7⟩ := hR.2.2.2
  have hlen := hR.2.2.1.len
  unfold wp_X4_wholeValue
  unfold wv at h
  refine qeq (by omega) (by omega) (by omega) (by omega) (fun c => ?_) (fun c => ?_)
  · rw [if_pos (by omega)] at h
    rw [g1]
    exact h
  rw [if_neg (by omega)] at h
  refine qeq (by omega) (by omega) (by omega) (by omega) (fun c => ?_) (fun c => ?_)
  · rw [if_pos (by omega)] at h
    exact n_countAllShelves hR hW h
  rw [if_neg (by omega)] at h
  refine qeq (by omega) (by omega) (by omega) (by omega) (fun c => ?_) (fun c => ?_)
  · rw [if_pos (by omega)] at h
    refine n_countInStreet hR hW ?_
    rw [g0, jI_sub, sP_len hR hW]
    exact h
  rw [if_neg (by omega)] at h
  refine qeq (by omega) (by omega) (by omega) (by omega) (fun c => ?_) (fun c => ?_)
  · rw [if_pos (by omega)] at h
    refine n_countInStreet hR hW ?_
    rw [sS_many hR hW, ← gwj]
    exact h
  rw [if_neg (by omega)] at h
  refine qeq (by omega) (by omega) (by omega) (by omega) (fun c => ?_) (fun c => ?_)
  · rw [if_pos (by omega), show x - 3 = 1 by omega] at h
    rw [g2]
    exact h
  refine qeq (by omega) (by omega) (by omega) (by omega) (fun c => ?_) (fun c => ?_)
  · rw [if_pos (by omega), show x - 3 = 2 by omega] at h
    rw [g3]
    exact h
  refine qeq (by omega) (by omega) (by omega) (by omega) (fun c => ?_) (fun c => ?_)
  · rw [if_pos (by omega), show x - 3 = 3 by omega] at h
    rw [g4]
    exact h
  refine qeq (by omega) (by omega) (by omega) (by omega) (fun c => ?_) (fun c => ?_)
  · rw [if_pos (by omega), show x - 3 = 4 by omega] at h
    rw [g5]
    exact h
  refine qeq (by omega) (by omega) (by omega) (by omega) (fun c => ?_) (fun c => ?_)
  · rw [if_pos (by omega), show x - 3 = 5 by omega] at h
    rw [g6]
    exact h
  refine qeq (by omega) (by omega) (by omega) (by omega) (fun c => ?_) (fun c => ?_)
  · rw [if_pos (by omega), show x - 3 = 6 by omega] at h
    rw [g7]
    exact h
  rw [if_neg (by omega)] at h
  refine qeq (by omega) (by omega) (by omega) (by omega) (fun c => ?_) (fun c => ?_)
  · rw [if_pos (by omega)] at h
    exact n_countOfLine hR h
  rw [if_neg (by omega)] at h
  exact n_areaLaid hR hW h
end WHO
theorem last_54 : True := trivial

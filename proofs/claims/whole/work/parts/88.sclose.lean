/-! closeShelves -/
section JST
variable {w : Wd} {σ u u' : ST} {t p : Nat}
theorem min_o {a : Nat} (ha : a ≠ t) (hp : p < 24) : min 24 (24 * t + p + 1 - 24 * a) = min 24 (24 * t + p - 24 * a) := by omega
theorem slP_b (hW : WF w) (b : Nat) {k : Nat} (hk : k < 144) : -100 ≤ slP w b k ∧ slP w b k ≤ 100 ∧ (isL w k = false → slP w b k < 0) := by
  unfold slP
  cases hl : isL w k
  · rw [if_neg (by decide)]
    have := isL_f hl
    rcases slo_c hW hk with ⟨_, q⟩ | ⟨_, q⟩ | ⟨q1, q2, _⟩ <;> omega
  · obtain ⟨a1, a2, a3, a4, a5, a6, -⟩ := laid_c hW hk hl
    have := pst_le (w := w) (t := (aT w k).toNat) (p := min 24 (b - 24 * (aT w k).toNat)) (aS w k).toNat
    rw [if_pos rfl]
    exact ⟨by omega, by omega, fun q => by cases q⟩
theorem clJ_0 {l : List Nat} (hW : WF w) (hR : RC σ.1 σ.2 w l) : clJ w 72 σ σ := by
  refine ⟨fun _ _ _ => rfl, rfl, fun t s ht hs h1 h2 _ => ?_, fun t q ht hq h => ?_, fun k hk => ?_⟩
  · rw [show min 24 (72 - 24 * t) = 24 by omega, pst_low (by omega), hR.1.2.2 t s ht hs, if_pos ⟨h1, h2⟩]
    exact gwj w _
  · rw [show min 24 (72 - 24 * t) = 24 by omega] at h
    rw [hR.1.2.2 t q ht hq, if_neg]
    rintro ⟨h1, h2⟩
    rcases h with h | h
    · exact h h1
    · have hb := hW.2.1 t h1
      rw [pst_low (by omega)] at h
      omega
  · rw [(hR.2.1 k hk).1]
    refine jeq ?_
    unfold slP
    cases hl : isL w k
    · rw [if_neg (by decide)]
    · obtain ⟨a1, a2, a3, a4, a5, a6, -⟩ := laid_c hW hk hl
      rw [if_pos rfl, show min 24 (72 - 24 * (aT w k).toNat) = 24 by omega, pst_low (by omega)]
      unfold slo
      rw [if_neg (by omega), if_neg (by omega)]
      omega
theorem clJ_end (hW : WF w) (h : clJ w 0 σ u) : ClC w σ.1 u.1 := by
  obtain ⟨h1, -, h3, h4, h5⟩ := h
  refine ⟨h1, fun t s ht hs a1 a2 hk => ?_, fun t q ht hq hc => ?_, fun k hk => ?_⟩
  · have := h3 t s ht hs a1 a2 (Or.inr hk)
    rw [show min 24 (0 - 24 * t) = 0 by omega, pst_z] at this
    exact this
  · refine h4 t q ht hq ?_
    rw [show min 24 (0 - 24 * t) = 0 by omega, pst_z]
    exact hc
  · rw [h5 k hk]
    unfold slP
    rw [show min 24 (0 - 24 * (aT w k).toNat) = 0 by omega, pst_z]
/-- a slot that stays: it is none, or a letter stands there -/
theorem clJ_skip (hW : WF w) (ht : t < 3) (hp : p < 24) (h : clJ w (24 * t + p + 1) σ u) (hs : ¬ ((t : Int) < nT w ∧ (p : Int) < nS w t) ∨ kp w t p = true) : clJ w (24 * t + p) σ u := by
  have e1 : min 24 (24 * t + p + 1 - 24 * t) = p + 1 := by omega
  have e0 : min 24 (24 * t + p - 24 * t) = p := by omega
  have hps : ∀ s : Nat, (t : Int) < nT w → (s : Int) ≤ nS w t → pst w t p s = pst w t (p + 1) s := fun s h1 h2 => by
    rcases hs with hs | hs
    · have : ¬ (p : Int) < nS w t := fun q => hs ⟨h1, q⟩
      rw [pst_low (by omega), pst_low (by omega)]
    · exact pst_skip hs s
  obtain ⟨h1, h2, h3, h4, h5⟩ := h
  refine ⟨h1, h2, fun a s ha hs9 a1 a2 hc => ?_, fun a q ha hq hc => ?_, fun k hk => ?_⟩
  · by_cases hat : a = t
    · subst hat
      have h3' := h3 a s ha hs9 a1 a2
      rw [e1] at h3'
      rw [e0] at hc ⊢
      rw [hps s a1 (by omega)]
      exact h3' (hc.imp (fun q => by omega) id)
    · have h3' := h3 a s ha hs9 a1 a2
      rw [min_o hat hp] at h3'
      exact h3' hc
  · by_cases hat : a = t
    · subst hat
      have h4' := h4 a q ha hq
      rw [e1] at h4'
      rw [e0] at hc
      by_cases hT : (a : Int) < nT w
      · have hb := hW.2.1 a hT
        rw [hps (nS w a).toNat hT (by omega)] at hc
        exact h4' hc
      · exact h4' (Or.inl hT)
    · have h4' := h4 a q ha hq
      rw [min_o hat hp] at h4'
      exact h4' hc
  · rw [h5 k hk]
    refine jeq ?_
    unfold slP
    cases hl : isL w k
    · rw [if_neg (by decide), if_neg (by decide)]
    · obtain ⟨a1, a2, a3, a4, a5, a6, -⟩ := laid_c hW hk hl
      rw [if_pos rfl, if_pos rfl]
      by_cases hat : (aT w k).toNat = t
      · rw [hat] at a5 ⊢
        rw [e1, e0, hps (aS w k).toNat (by omega) (by omega)]
      · rw [min_o hat hp]
/-- a shelf without letters is closed -/
theorem clJ_shut (hW : WF w) (ht : t < 3) (hp : p < 24) (h : clJ w (24 * t + p + 1) σ u) (hT : (t : Int) < nT w) (hS : (p : Int) < nS w t) (hk0 : kp w t p = false) (g1 : ∀ q : Nat, q ≠ 2 → q ≠ 3 → u'.1 q = u.1 q) (g2 : u'.2 = u.2) (g3 : ∀ q : Nat, q < 72 → u'.1 2 q = if 24 * t + p ≤ q ∧ q < 24 * t + 23 then u.1 2 (q + 1) else if q = 24 * t + 23 then jI 0 else u.1 2 q) (g4 : ∀ k : Nat, k < 144 → u'.1 3 k = jI (if ((24 * t + p : Nat) : Int) < slP w (24 * t + p + 1) k ∧ slP w (24 * t + p + 1) k ≤ ((24 * t + 23 : Nat) : Int) then slP w (24 * t + p + 1) k - 1 else slP w (24 * t + p + 1) k)) : clJ w (24 * t + p) σ u' := by
  have e1 : min 24 (24 * t + p + 1 - 24 * t) = p + 1 := by omega
  have e0 : min 24 (24 * t + p - 24 * t) = p := by omega
  obtain ⟨h1, h2, h3, h4, h5⟩ := h
  have hb0 := hW.2.1 t hT
  refine ⟨fun q q2 q3 => (g1 q q2 q3).trans (h1 q q2 q3), g2.trans h2, fun a s ha hs9 a1 a2 hc => ?_, fun a q ha hq hc => ?_, fun k hk => ?_⟩
  · have hpl := pst_le (w := w) (t := a) (p := min 24 (24 * t + p - 24 * a)) s
    rw [g3 _ (by omega)]
    have h3' := h3 a s ha hs9 a1 a2
    by_cases hat : a = t
    · subst hat
      rw [e1] at h3'
      rw [e0] at hc hpl ⊢
      by_cases hsp : s < p
      · rw [pst_low (by omega), if_neg (by omega), if_neg (by omega)]
        rw [pst_low (by omega)] at h3'
        exact h3' (by omega)
      · have hne : s ≠ p := fun q => by
          rcases hc with hc | hc
          · omega
          · rw [q, hk0] at hc
            cases hc
        obtain ⟨c1, c2⟩ := pst_close hk0 (show p + 1 ≤ s by omega)
        have hpl2 := pst_le (w := w) (t := a) (p := p + 1) s
        rw [if_pos (by omega)]
        rw [c1] at h3'
        exact h3' (hc.imp (fun q => by omega) id)
    · rw [min_o hat hp] at h3'
      rw [if_neg (by omega), if_neg (by omega)]
      exact h3' hc
  · rw [g3 _ (by omega)]
    by_cases hat : a = t
    · subst hat
      rw [e0] at hc
      have hc := hc.resolve_left (fun q => q hT)
      obtain ⟨c1, c2⟩ := pst_close hk0 (show p + 1 ≤ (nS w a).toNat by omega)
      by_cases hq23 : q = 23
      · rw [if_neg (by omega), if_pos (by omega)]
      · have h4' := h4 a (q + 1) ha (by omega)
        rw [e1] at h4'
        rw [if_pos (by omega)]
        exact h4' (Or.inr (by omega))
    · have h4' := h4 a q ha hq
      rw [min_o hat hp] at h4'
      rw [if_neg (by omega), if_neg (by omega)]
      exact h4' hc
  · rw [g4 k hk]
    refine jeq ?_
    have hsb := slP_b hW (24 * t + p + 1) hk
    cases hl : isL w k
    · have hneg := hsb.2.2 hl
      rw [if_neg (by omega)]
      unfold slP
      rw [hl, if_neg (by decide), if_neg (by decide)]
    · obtain ⟨a1, a2, a3, a4, a5, a6, -⟩ := laid_c hW hk hl
      have hkp := kp_laid hW hk hl
      have hpl := pst_le (w := w) (t := (aT w k).toNat) (p := min 24 (24 * t + p + 1 - 24 * (aT w k).toNat)) (aS w k).toNat
      unfold slP
      rw [if_pos hl, if_pos hl]
      by_cases hat : (aT w k).toNat = t
      · rw [hat] at a5 hkp hpl ⊢
        rw [e1] at hpl ⊢
        rw [e0]
        have hne : (aS w k).toNat ≠ p := fun q => by
          rw [q, hk0] at hkp
          cases hkp
        by_cases hsp : (aS w k).toNat < p
        · rw [pst_low (show (aS w k).toNat ≤ p + 1 by omega), pst_low (show (aS w k).toNat ≤ p by omega), if_neg (by omega)]
        · obtain ⟨c1, c2⟩ := pst_close hk0 (show p + 1 ≤ (aS w k).toNat by omega)
          rw [c1] at hpl ⊢
          rw [if_pos (by omega)]
          omega
      · rw [min_o hat hp] at hpl ⊢
        rw [if_neg (by omega)]
end JST
theorem slP_on {w : Wd} (hW : WF w) {t p k : Nat} (ht : t < 3) (hp : p < 24) (hk : k < 144) : slP w (24 * t + p + 1) k = ((24 * t + p : Nat) : Int) ↔ isO w k t p = true := by
  have hsb := slP_b hW (24 * t + p + 1) hk
  cases hl : isL w k
  · have hneg := hsb.2.2 hl
    constructor
    · intro q
      omega
    · intro q
      rw [(isO_c hW hk ht q).2.1] at hl
      cases hl
  · obtain ⟨a1, a2, a3, a4, a5, a6, -⟩ := laid_c hW hk hl
    have hpl := pst_le (w := w) (t := (aT w k).toNat) (p := min 24 (24 * t + p + 1 - 24 * (aT w k).toNat)) (aS w k).toNat
    unfold slP
    rw [if_pos hl]
    have e1 : min 24 (24 * t + p + 1 - 24 * t) = p + 1 := by omega
    constructor
    · intro q
      have hat : (aT w k).toNat = t := by omega
      rw [hat, e1] at q
      have hs : (aS w k).toNat = p := by
        by_cases h1 : (aS w k).toNat ≤ p
        · rw [pst_low (by omega)] at q
          omega
        · have := pst_ge (w := w) (t := t) (p := p + 1) (s := (aS w k).toNat) (by omega)
          omega
      exact bo_t (by omega)
    · intro q
      obtain ⟨o1, o2⟩ := isO_t q
      rw [o1, o2, Int.toNat_natCast, Int.toNat_natCast, e1, pst_low (by omega)]
      omega
theorem n_closes {σ : ST} {w : Wd} {l : List Nat} {Q : Int32 → ST → Prop} (hR : RK σ w l) (hW : WF w) (h : ∀ σ' : ST, ClC w σ.1 σ'.1 → σ'.2 = σ.2 → Q (jI (((List.range 72).countP (exB w) : Nat) : Int)) σ') : wp_X4_closeEmptyShelves σ Q := by
  have hlen := hR.2.2.1.len
  have hmem := hR.2.2.1.2.2.1
  have hall : (List.range 72).countP (exB w) ≤ 72 := Nat.le_trans List.countP_le_length (by rw [List.length_range]; exact Nat.le_refl _)
  unfold wp_X4_closeEmptyShelves
  have key : ∀ K : ST → Int32 → Prop, (∀ σ' : ST, ClC w σ.1 σ'.1 → σ'.2 = σ.2 → K σ' (jI (((List.range 72).countP (exB w) : Nat) : Int))) → ∃ nn, wl_X4_closeEmptyShelves_5 K nn σ (jI 0) (jI 71) := fun K hK => by
    refine lp_inv (α := ST × Int32 × Int32) (L := fun n a => wl_X4_closeEmptyShelves_5 K n a.1 a.2.1 a.2.2) (B := fun LL a => wb_X4_closeEmptyShelves_5 K (fun t y z => LL (t, y, z)) a.1 a.2.1 a.2.2) (fun n a => rfl) (fun i a => clJ w (72 - i) σ a.1 ∧ a.2.1 = jI ((((List.range 72).countP (exB w) : Nat) : Int) - (((List.range (72 - i)).countP (exB w) : Nat) : Int)) ∧ a.2.2 = jI (71 - (i : Int))) 72 (fun i a hi ha LL hLL => ?_) (σ, jI 0, jI 71) ⟨clJ_0 hW hR, jeq (by rw [Nat.sub_zero]; omega), jeq (by omega)⟩
    obtain ⟨u, y, z⟩ := a
    obtain ⟨ha1, ha2, ha3⟩ := ha
    dsimp only at ha1 ha2 ha3 ⊢
    subst ha2 ha3
    unfold wb_X4_closeEmptyShelves_5
    refine qlt (by omega) (by omega) (by decide) (by decide) (fun c => ?_) (fun c => ?_)
    · have e : i = 72 := by omega
      subst e
      have h9 := hK u (clJ_end hW ha1) ha1.2.1
      rw [show (((List.range (72 - 72)).countP (exB w) : Nat) : Int) = 0 from rfl, Int.sub_zero]
      exact h9
    · obtain ⟨t, p, hb, ht, hp⟩ : ∃ t p : Nat, 72 - i = 24 * t + p + 1 ∧ t < 3 ∧ p < 24 := ⟨(71 - i) / 24, (71 - i) % 24, by omega, by omega, by omega⟩
      have hb2 : 72 - (i + 1) = 24 * t + p := by omega
      rw [hb] at ha1 ⊢
      rw [show (71 : Int) - (i : Int) = ((24 * t + p : Nat) : Int) by omega]
      have hcs : (List.range (24 * t + p + 1)).countP (exB w) = (List.range (24 * t + p)).countP (exB w) + if exB w (24 * t + p) = true then 1 else 0 := cnt_s _ _
      have hcl : (List.range (24 * t + p)).countP (exB w) ≤ 24 * t + p := Nat.le_trans List.countP_le_length (by rw [List.length_range]; exact Nat.le_refl _)
      have hex := exB_i (w := w) (t := t) hp
      have hskip : (¬ ((t : Int) < nT w ∧ (p : Int) < nS w t) ∨ kp w t p = true) → ∀ x1 : Int32, x1 = jI ((24 * t + p : Nat) : Int) + jI (-1) → LL (u, jI ((((List.range 72).countP (exB w) : Nat) : Int) - (((List.range (24 * t + p + 1)).countP (exB w) : Nat) : Int)), x1) := fun hc => by
        refine alE (jI_add _ _) (hLL _ (by omega) ⟨?_, ?_, jeq (by omega)⟩)
        · rw [hb2]
          exact clJ_skip hW ht hp ha1 hc
        · dsimp only
          rw [hb2, hcs, hex]
          rcases hc with hc | hc
          · rw [bo_f hc, Bool.false_and, if_neg (by decide), Nat.add_zero]
          · rw [hc, Bool.not_true, Bool.and_false, if_neg (by decide), Nat.add_zero]
      by_cases hin : (t : Int) < nT w ∧ (p : Int) < nS w t
      · have htl := (hsv_in hW hin.1 hin.2).2
        have e2 : zrg u 2 (jI ((24 * t + p : Nat) : Int)) = jI (tl w t p) := by
          rw [cg u 2 _ (by show 24 * t + p < 72; omega)]
          have := ha1.2.2.1 t p ht hp hin.1 hin.2 (Or.inl (by omega))
          rw [show min 24 (24 * t + p + 1 - 24 * t) = p + 1 by omega, pst_low (by omega)] at this
          exact this
        have h9 : ∀ i k : Nat, l[i]? = some k → u.1 9 i = jI k := fun i k hi => by
          rw [ha1.1 9 (by decide) (by decide)]
          exact hR.2.2.1.1 i k hi
        have hlt : ∀ k ∈ l, k < 144 := fun k hk => ((hmem k).mp hk).1
        have h0 : u.2 0 = jI (l.length : Nat) := by
          rw [ha1.2.1]
          exact hR.n
        have hsb : ∀ k : Nat, k < 144 → -100 ≤ slP w (24 * t + p + 1) k ∧ slP w (24 * t + p + 1) k ≤ 100 := fun k hk => ⟨(slP_b hW _ hk).1, (slP_b hW _ hk).2.1⟩
        refine alE e2 (qf (jnle (by omega)) ?_)
        have hcl9 : l.countP (fun k => decide (slP w (24 * t + p + 1) k = ((24 * t + p : Nat) : Int))) ≤ 144 := Nat.le_trans List.countP_le_length hlen
        refine n_countSlot h9 hlt hlen h0 ha1.2.2.2.2 hsb (by omega) (by omega) ?_
        refine qeq (by omega) (by omega) (by decide) (by decide) (fun d => ?_) (fun d => ?_)
        · have hkf : kp w t p = false := by
            unfold kp
            rw [List.any_eq_false]
            intro k hk hq
            have hk := List.mem_range.mp hk
            have hz := List.countP_eq_zero.mp (show l.countP (fun k => decide (slP w (24 * t + p + 1) k = ((24 * t + p : Nat) : Int))) = 0 by omega) k ((hmem k).mpr ⟨hk, (isO_c hW hk ht hq).1⟩)
            exact hz (bo_t ((slP_on hW ht hp hk).mpr hq))
          refine n_closeShelf ht hp h9 hlt hR.2.2.1.2.1 hlen h0 ha1.2.2.2.2 hsb (fun k hk hn => ?_) (fun u' g1 g2 g3 g4 => ?_)
          · refine (slP_b hW _ hk).2.2 ?_
            cases hl : isL w k
            · rfl
            · exact absurd ((hmem k).mpr ⟨hk, bo_t (by have := isL_t hl; omega)⟩) hn
          · refine alE (jI_add _ _) (alE (jI_add _ _) (hLL _ (by omega) ⟨?_, ?_, jeq (by omega)⟩))
            · rw [hb2]
              exact clJ_shut hW ht hp ha1 hin.1 hin.2 hkf g1 g2 g3 g4
            · dsimp only
              rw [hb2, hcs, hex, bo_t hin, hkf, if_pos (show (true && !false) = true from rfl)]
              exact jeq (by omega)
        · have hkt : kp w t p = true := by
            cases hkf : kp w t p
            · exfalso
              refine d ?_
              have : l.countP (fun k => decide (slP w (24 * t + p + 1) k = ((24 * t + p : Nat) : Int))) = 0 := List.countP_eq_zero.mpr (fun k hk q => by
                have hk := hlt k hk
                have := kp_of hk ((slP_on hW ht hp hk).mp (of_decide_eq_true q))
                rw [hkf] at this
                cases this)
              omega
            · rfl
          exact hskip (Or.inr hkt)
      · have e2 : zrg u 2 (jI ((24 * t + p : Nat) : Int)) = jI 0 := by
          rw [cg u 2 _ (by show 24 * t + p < 72; omega)]
          refine ha1.2.2.2.1 t p ht hp ?_
          by_cases hT : (t : Int) < nT w
          · have : ¬ (p : Int) < nS w t := fun q => hin ⟨hT, q⟩
            have hb9 := hW.2.1 t hT
            rw [show min 24 (24 * t + p + 1 - 24 * t) = p + 1 by omega, pst_low (by omega)]
            exact Or.inr (by omega)
          · exact Or.inl hT
        exact alE e2 (qt (jle (by decide) (by decide) (by decide)) (hskip (Or.inl hin)))
  exact key _ h
theorem core_close {σ μ σ' μ' : ST} {l : List Nat} (hW : WF (μ.1 0)) (hR : RK σ (μ.1 0) l) (hC : ClC (μ.1 0) σ.1 σ'.1) (h2 : σ'.2 = σ.2) (q1 : ∀ q : Nat, q ≠ 0 → μ'.1 q = μ.1 q) (q2 : μ'.2 = μ.2) (hw : ClW (μ.1 0) (μ'.1 0)) : Core 0 σ μ σ' μ' := by
  refine ⟨⟨fun r hr => hC.1 r (by omega) (by omega), fun c _ _ => by rw [h2]⟩, ⟨fun r h1 _ => q1 r h1, fun c _ => by rw [q2]⟩, hw.WF hW, ⟨l, ClW_RC hw hW hR hC h2⟩, ?_⟩
  rw [hw.g (by decide)]
  omega
theorem s_closeShelves : st_closeShelves Inv := by
  intro n σ μ hn hI
  have hI' := hI
  obtain ⟨hW, hcl, ⟨l, hR⟩, -⟩ := hI'
  unfold wp_X6_closeShelves
  refine op_save hI (fun σ1 k1 k2 hs => ?_)
  have hR1 : RK σ1 (μ.1 0) l := RC_congr hR (fun j hj => k1 j (by omega)) (fun j hj => k2 j (by omega))
  refine n_closes hR1 hW (fun σ2 hC h2 => ?_)
  unfold wp_X7_closeShelves
  refine al (hs _ (sameM_th μ 1 _ (by decide) (by decide)) _ (fun μ1 q1 q2 hu ht => ?_))
  have e0 : μ1.1 0 = μ.1 0 := q1 0 (by decide)
  refine m_closes (by rw [e0]; exact hW) (fun μ2 g1 g2 g3 => ⟨by rw [e0], ?_⟩)
  exact Inv.core hu ht (by rw [e0]; exact hcl) (by decide) (core_close (l := l) (by rw [e0]; exact hW) (by rw [e0]; exact hR1) (by rw [e0]; exact hC) h2 g1 g2 g3)
theorem last_88 : True := trivial

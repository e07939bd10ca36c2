/-! the reference's search: trays, shelves, street, all -/
section MLB
variable {v : ST} {k : Nat}
/-- the lowest tray from j on with room for the shelf -/
def IsTrF (w : Wd) (k j : Nat) : Option Nat → Prop
  | none => ∀ t : Nat, j ≤ t → (t : Int) < nT w → 24 < topH w t (nS w t).toNat + hgt w k
  | some t => j ≤ t ∧ (t : Int) < nT w ∧ topH w t (nS w t).toNat + hgt w k ≤ 24 ∧ ∀ t' : Nat, j ≤ t' → t' < t → 24 < topH w t' (nS w t').toNat + hgt w k
def trM (μ u : ST) : Option Nat → Prop
  | none => u = μ
  | some t => KM μ u ∧ u.1 = μ.1 ∧ u.2 2 = jI 2 ∧ u.2 3 = jI (t : Nat) ∧ u.2 4 = jI (nS (μ.1 0) t) ∧ u.2 5 = jI 0
theorem trM_k {μ u : ST} {o : Option Nat} (h : trM μ u o) : KM μ u ∧ u.1 = μ.1 := by
  cases o with
  | none => rw [show u = μ from h]; exact ⟨KM.rf μ, rfl⟩
  | some t => exact ⟨h.1, h.2.1⟩
theorem m_trays {μ : ST} {Q : ST → Prop} (hW : WF (μ.1 0)) (hk : k < 144) (h : ∀ (u : ST) (o : Option Nat), IsTr (μ.1 0) k o → trM μ u o → Q u) : wp_X7_looksAtTrays μ (jI (k : Nat)) Q := by
  have hT1 := hW.1.1
  have hT2 := hW.1.2.1
  have hh := hgt_b hW hk
  unfold wp_X7_looksAtTrays
  refine m_rd 0 rfl (by decide) (by decide) ?_
  rw [show μ.1 0 0 = jI (nT (μ.1 0)) from gwj _ 0, jI_sub]
  refine al ?_
  have key : ∀ K : ST → Prop, (∀ (u : ST) (o : Option Nat), IsTr (μ.1 0) k o → trM μ u o → K u) → ∃ nn, wl_X7_looksAtTrays_9 K (jI (k : Nat)) nn μ (jI (nT (μ.1 0) - 1)) := fun K hK => by
    refine lp_inv (α := ST × Int32) (L := fun n a => wl_X7_looksAtTrays_9 K (jI (k : Nat)) n a.1 a.2) (B := fun LL a => wb_X7_looksAtTrays_9 K (fun t y => LL (t, y)) (jI (k : Nat)) a.1 a.2) (fun n a => rfl) (fun i a => a.2 = jI (nT (μ.1 0) - 1 - i) ∧ ∃ o, IsTrF (μ.1 0) k ((nT (μ.1 0)).toNat - i) o ∧ trM μ a.1 o) (nT (μ.1 0)).toNat (fun i a hi ha LL hLL => ?_) (μ, jI (nT (μ.1 0) - 1)) ⟨jeq (by omega), none, fun t h1 h2 => by omega, rfl⟩
    obtain ⟨u, y⟩ := a
    obtain ⟨ha1, o, ha2, ha3⟩ := ha
    dsimp only at ha1 ha3 ⊢
    subst ha1
    unfold wb_X7_looksAtTrays_9
    have u1 := (trM_k ha3).2
    refine qlt (by omega) (by omega) (by decide) (by decide) (fun c => ?_) (fun c => ?_)
    · refine hK u o ?_ ha3
      have e : (nT (μ.1 0)).toNat - i = 0 := by omega
      rw [e] at ha2
      cases o with
      | none => exact fun t ht => ha2 t (Nat.zero_le t) ht
      | some t => exact ⟨ha2.2.1, ha2.2.2.1, fun t' ht' => ha2.2.2.2 t' (Nat.zero_le t') ht'⟩
    · obtain ⟨t, et⟩ : ∃ t : Nat, nT (μ.1 0) - 1 - (i : Int) = t := ⟨(nT (μ.1 0) - 1 - (i : Int)).toNat, by omega⟩
      rw [et]
      have htT : (t : Int) < nT (μ.1 0) := by omega
      have hb := hW.2.1 t htT
      have htb := topH_b hW htT (nS (μ.1 0) t).toNat (by omega)
      have ej : (nT (μ.1 0)).toNat - i = t + 1 := by omega
      have ej2 : (nT (μ.1 0)).toNat - (i + 1) = t := by omega
      rw [ej] at ha2
      refine m_rd (44 + t) (by rw [jI_add]; exact jeq (by omega)) (by omega) (by decide) ?_
      rw [u1, show μ.1 0 (44 + t) = jI (nS (μ.1 0) t) from gwj _ _, show nS (μ.1 0) t = (((nS (μ.1 0) t).toNat : Nat) : Int) by omega]
      refine m_top (by omega) (by omega) (m_heightOf hk ?_)
      rw [u1, jI_add]
      refine qlt (by omega) (by omega) (by omega) (by omega) (fun d => ?_) (fun d => ?_)
      · refine alE (jI_add _ _) (hLL _ (by omega) ⟨jeq (by omega), o, ?_, ha3⟩)
        rw [ej2]
        cases o with
        | none =>
          intro t' h1 h2
          by_cases q : t' = t
          · rw [q]; exact d
          · exact ha2 t' (by omega) h2
        | some t9 =>
          obtain ⟨h1, h2, h3, h4⟩ := ha2
          refine ⟨by omega, h2, h3, fun t' q1 q2 => ?_⟩
          by_cases q : t' = t
          · rw [q]; exact d
          · exact h4 t' (by omega) q2
      · refine al (al (m_rd (44 + t) (by rw [jI_add]; exact jeq (by omega)) (by omega) (by decide) (al (al ?_))))
        have e44 : (zsp (zsp u 2 (jI 2)) 3 (jI (t : Nat))).1 0 (44 + t) = jI (nS (μ.1 0) t) := by
          show u.1 0 (44 + t) = _
          rw [u1]
          exact gwj _ _
        rw [e44]
        obtain ⟨z2, z3, z4, z5, z6⟩ := @zsp4 u (jI 2) (jI (t : Nat)) (jI (nS (μ.1 0) t)) (jI 0)
        refine alE (jI_add _ _) (hLL _ (by omega) ⟨jeq (by omega), some t, ?_, (trM_k ha3).1.trans ⟨fun _ _ => rfl, z6⟩, u1, z2, z3, z4, z5⟩)
        rw [ej2]
        exact ⟨Nat.le_refl t, htT, d, fun t' q1 q2 => by omega⟩
  exact key _ h
def shM (μ u : ST) (y : Int32) : Option (Nat × Int) → Prop
  | none => u.2 2 = jI (-1) ∧ u.2 7 = μ.2 7
  | some (q, x) => u.2 2 = jI 3 ∧ u.2 3 = jI ((q / 24 : Nat) : Int) ∧ u.2 4 = jI ((q % 24 : Nat) : Int) ∧ u.2 5 = jI 0 ∧ u.2 7 = jI (sA (fun z => bI (isO (μ.1 0) z ((q / 24 : Nat) : Int) ((q % 24 : Nat) : Int)))) ∧ y = jI x ∧ -2147483648 ≤ x ∧ x < 2147483648
def KN (μ v : ST) : Prop := v.1 = μ.1 ∧ ∀ c : Nat, c < 2 ∨ (5 < c ∧ c ≠ 7) → v.2 c = μ.2 c
theorem m_shl17 {μ : ST} {t : Nat} {y0 : Int32} {K : ST → Int32 → Prop} (hW : WF (μ.1 0)) (hk : k < 144) (ht : (t : Int) < nT (μ.1 0)) (hv : KN μ v) (hg : shM μ v y0 (shP (μ.1 0) k (24 * t))) (h : ∀ (v' : ST) (y : Int32), KN μ v' → shM μ v' y (shP (μ.1 0) k (24 * (t + 1))) → K v' y) : ∃ nn, wl_X7_looksAtShelves_17 K (jI (k : Nat)) (jI (t : Nat)) nn v y0 (jI 0) := by
  have hb := hW.2.1 t ht
  have ht3 : t < 3 := by have := hW.1.2.1; omega
  have hh := hgt_b hW hk
  refine lp_inv (α := ST × Int32 × Int32) (L := fun n a => wl_X7_looksAtShelves_17 K (jI (k : Nat)) (jI (t : Nat)) n a.1 a.2.1 a.2.2) (B := fun LL a => wb_X7_looksAtShelves_17 K (fun t y z => LL (t, y, z)) (jI (k : Nat)) (jI (t : Nat)) a.1 a.2.1 a.2.2) (fun n a => rfl) (fun s a => KN μ a.1 ∧ shM μ a.1 a.2.1 (shP (μ.1 0) k (24 * t + s)) ∧ a.2.2 = jI (s : Nat)) (nS (μ.1 0) t).toNat (fun s a hs ha LL hLL => ?_) (v, y0, jI 0) ⟨hv, hg, rfl⟩
  obtain ⟨u, y, z⟩ := a
  obtain ⟨hb1, hb2, hb3⟩ := ha
  dsimp only at hb1 hb2 hb3 ⊢
  subst hb3
  unfold wb_X7_looksAtShelves_17
  have u0 : u.1 0 = μ.1 0 := by rw [hb1.1]
  refine m_rd (44 + t) (by rw [jI_add]; exact jeq (by omega)) (by omega) (by decide) ?_
  rw [u0, show μ.1 0 (44 + t) = jI (nS (μ.1 0) t) from gwj _ _]
  refine qle (by omega) (by omega) (by omega) (by omega) (fun d => ?_) (fun d => ?_)
  · have h9 := h u y hb1
    rw [show 24 * (t + 1) = 24 * t + s + (24 - s) by omega, shP_zs (24 * t + s) (24 - s) (fun i h1 h2 q => ?_)] at h9
    · exact h9 hb2
    · rw [show i = 24 * t + (i - 24 * t) by omega, exS_i (by omega)] at q
      have := q.2
      omega
  · have hs2 : s < 24 := by omega
    have eS : shP (μ.1 0) k (24 * t + (s + 1)) = shN (μ.1 0) k (24 * t + s) (shP (μ.1 0) k (24 * t + s)) := rfl
    have htl := (hsv_in hW ht d).2
    refine m_latestOn ht3 hs2 (fun lv hlv => ?_)
    rw [u0] at hlv
    have hlb := hlv.b
    have elat : lat (μ.1 0) t s = lv := lat_eq hW ht3 hlv
    have hout : ¬ (((t : Int) < nT (μ.1 0) ∧ (s : Int) < nS (μ.1 0) t) ∧ hgt (μ.1 0) k ≤ tl (μ.1 0) t s ∧ nowO (μ.1 0) t s = false) → ∀ x1 : Int32, x1 = jI (s : Nat) + jI 1 → LL (u, y, x1) := fun hc => by
      refine alE (jI_add _ _) (hLL _ (by omega) ⟨hb1, ?_, rfl⟩)
      dsimp only
      rw [eS, shN_out hs2 hc]
      exact hb2
    refine m_tall ht3 hs2 (m_heightOf hk ?_)
    rw [u0]
    refine qlt (by omega) (by omega) (by omega) (by omega) (fun c => hout (fun q => by omega)) (fun c => ?_)
    refine m_isNowOn ht3 hs2 ?_
    rw [u0]
    refine qb (fun p => ?_) (fun p => hout (fun q => by rw [p] at q; cases q.2.2))
    have hc3 : ((t : Int) < nT (μ.1 0) ∧ (s : Int) < nS (μ.1 0) t) ∧ hgt (μ.1 0) k ≤ tl (μ.1 0) t s ∧ nowO (μ.1 0) t s = false := ⟨⟨ht, d⟩, c, p⟩
    have hin := shN_in (shP (μ.1 0) k (24 * t + s)) hs2 hc3
    rw [elat] at hin
    have hput : shN (μ.1 0) k (24 * t + s) (shP (μ.1 0) k (24 * t + s)) = some (24 * t + s, lv) → (∀ s5 : ST, s5 = zsp u 2 (jI 3) → (∀ s6 : ST, s6 = zsp s5 3 (jI (t : Nat)) → (∀ s7 : ST, s7 = zsp s6 4 (jI (s : Nat)) → (∀ s8 : ST, s8 = zsp s7 5 (jI 0) → wp_X7_lettersOn s8 (jI (t : Nat)) (jI (s : Nat)) (fun r5 s9 => (∀ s10 : ST, s10 = zsp s9 7 r5 → (∀ x3 : Int32, x3 = jI (s : Nat) + jI 1 → LL (s10, jI lv, x3)))))))) := fun hq => by
      refine al (al (al (al ?_)))
      obtain ⟨z2, z3, z4, z5, z6⟩ := @zsp4 u (jI 3) (jI (t : Nat)) (jI (s : Nat)) (jI 0)
      refine m_lettersOn ht3 hs2 (al (alE (jI_add _ _) (hLL _ (by omega) ⟨⟨hb1.1, fun c hc => (zsp_nq (by omega)).trans ((z6 c (by omega)).trans (hb1.2 c hc))⟩, ?_, rfl⟩)))
      dsimp only
      rw [eS, hq]
      show _ ∧ _ ∧ _ ∧ _ ∧ _ ∧ _ ∧ _
      rw [show (24 * t + s) / 24 = t by omega, show (24 * t + s) % 24 = s by omega]
      refine ⟨(zsp_nq (by decide)).trans z2, (zsp_nq (by decide)).trans z3, (zsp_nq (by decide)).trans z4, (zsp_nq (by decide)).trans z5, ?_, rfl, hlb⟩
      refine zsp_at.trans ?_
      show jI (sA (fun z => bI (isO (u.1 0) z t s))) = _
      rw [u0]
    cases ho : shP (μ.1 0) k (24 * t + s) with
    | none =>
      rw [ho] at hb2 hin hput
      rw [show u.2 2 = jI (-1) from hb2.1]
      exact qt rfl (hput hin)
    | some qv =>
      obtain ⟨q0, v0⟩ := qv
      rw [ho] at hb2 hin hput
      obtain ⟨g1, g2, g3, g4, g5, g6, g7, g8⟩ := id hb2
      subst g6
      dsimp only at hin
      rw [g1]
      refine qf (jne (by decide) (by decide) (by decide) (by decide) (by decide)) ?_
      refine qle g7 g8 (by omega) (by omega) (fun e => ?_) (fun e => ?_)
      · rw [if_neg (by omega)] at hin
        refine alE (jI_add _ _) (hLL _ (by omega) ⟨hb1, ?_, rfl⟩)
        dsimp only
        rw [eS, ho, hin]
        exact hb2
      · rw [if_pos (by omega)] at hin
        exact hput hin
theorem m_shl4 {μ : ST} {Q : ST → Prop} (hW : WF (μ.1 0)) (hk : k < 144) (h2 : μ.2 2 = jI (-1)) (h : ∀ (v' : ST) (y : Int32), KN μ v' → shM μ v' y (shP (μ.1 0) k 72) → Q v') : wp_X7_looksAtShelves μ (jI (k : Nat)) Q := by
  have hT1 := hW.1.1
  have hT2 := hW.1.2.1
  unfold wp_X7_looksAtShelves
  have key : ∀ K : ST → Prop, (∀ (v' : ST) (y : Int32), KN μ v' → shM μ v' y (shP (μ.1 0) k 72) → K v') → ∃ nn, wl_X7_looksAtShelves_4 K (jI (k : Nat)) nn μ (jI 0) (jI 0) := fun K hK => by
    refine lp_inv (α := ST × Int32 × Int32) (L := fun n a => wl_X7_looksAtShelves_4 K (jI (k : Nat)) n a.1 a.2.1 a.2.2) (B := fun LL a => wb_X7_looksAtShelves_4 K (fun t y z => LL (t, y, z)) (jI (k : Nat)) a.1 a.2.1 a.2.2) (fun n a => rfl) (fun t a => KN μ a.1 ∧ shM μ a.1 a.2.1 (shP (μ.1 0) k (24 * t)) ∧ a.2.2 = jI (t : Nat)) (nT (μ.1 0)).toNat (fun t a ht ha LL hLL => ?_) (μ, jI 0, jI 0) ⟨⟨rfl, fun _ _ => rfl⟩, ⟨h2, rfl⟩, rfl⟩
    obtain ⟨u, y, z⟩ := a
    obtain ⟨hb1, hb2, hb3⟩ := ha
    dsimp only at hb1 hb2 hb3 ⊢
    subst hb3
    unfold wb_X7_looksAtShelves_4
    have u0 : u.1 0 = μ.1 0 := by rw [hb1.1]
    refine m_rd 0 rfl (by decide) (by decide) ?_
    rw [u0, show μ.1 0 0 = jI (nT (μ.1 0)) from gwj _ 0]
    refine qle (by omega) (by omega) (by omega) (by omega) (fun c => ?_) (fun c => ?_)
    · have h9 := hK u y hb1
      rw [show (72 : Nat) = 24 * t + (72 - 24 * t) by omega, shP_zs (24 * t) (72 - 24 * t) (fun i h1 h2 q => ?_)] at h9
      · exact h9 hb2
      · have := q.1
        omega
    · exact m_shl17 hW hk c hb1 hb2 (fun v' y' g1 g2 => alE (jI_add _ _) (hLL _ (by omega) ⟨g1, g2, rfl⟩))
  exact key _ h
theorem strt_c {w : Wd} (hW : WF w) {i : Nat} (hi : (i : Int) < gw w 7) : ∃ z : Nat, w (8 + i) = jI (z : Nat) ∧ z < 144 ∧ isS w z = true ∧ (strt w)[i]? = some z := by
  have h3 := hW.2.2.2.2.2.2.2.1 i hi
  have hg := strt_get hW hi
  have hm := (hW.2.2.2.2.2.2.2.2.2 _).mp (List.mem_of_getElem? hg)
  exact ⟨(gw w (8 + i)).toNat, (gwj _ _).trans (jeq (by omega)), hm.1, bo_t hm.2, hg⟩
theorem m_street {μ : ST} {Q : ST → Prop} (hW : WF (μ.1 0)) (h2 : μ.2 2 = jI (-1)) (h6 : μ.2 6 = jI (-1)) (h7 : μ.2 7 = jI 0) (h : ∀ (v' : ST) (ru tk lv : Int), v'.1 = μ.1 → (∀ c : Nat, c ≠ 2 → c ≠ 6 → c ≠ 7 → v'.2 c = μ.2 c) → StEnd (μ.1 0) ru tk lv → v'.2 2 = jI ru → v'.2 6 = jI lv → v'.2 7 = jI tk → Q v') : wp_X7_looksAtStreet μ Q := by
  have hf := hW.2.2.2.2.2
  have f1 := hf.1
  have f2 := hf.2.1
  unfold wp_X7_looksAtStreet
  refine m_rd 7 rfl (by decide) (by decide) ?_
  rw [gwj (μ.1 0) 7]
  refine qle (by decide) (by decide) (by omega) (by omega) (fun c => ?_) (fun c => ?_)
  · have key : ∀ K : ST → Prop, (∀ v' : ST, v'.1 = μ.1 → (∀ c : Nat, c ≠ 2 → c ≠ 6 → c ≠ 7 → v'.2 c = μ.2 c) → MinJ (μ.1 0) (mayS (μ.1 0)) (v'.2 6) → (v'.2 6 = jI (-1) → v'.2 2 = jI (-1) ∧ v'.2 7 = jI 0) → (v'.2 6 ≠ jI (-1) → v'.2 2 = jI 4 ∧ v'.2 7 = jI 1) → K v') → ∃ nn, wl_X7_looksAtStreet_19 K nn μ (jI 0) := fun K hK => by
      refine lp_inv (α := ST × Int32) (L := fun n a => wl_X7_looksAtStreet_19 K n a.1 a.2) (B := fun LL a => wb_X7_looksAtStreet_19 K (fun t y => LL (t, y)) a.1 a.2) (fun n a => rfl) (fun i a => a.2 = jI (i : Nat) ∧ a.1.1 = μ.1 ∧ (∀ c : Nat, c ≠ 2 → c ≠ 6 → c ≠ 7 → a.1.2 c = μ.2 c) ∧ MinJ (μ.1 0) (fun z => (∃ j, j < i ∧ (strt (μ.1 0))[j]? = some z) ∧ isNw (μ.1 0) z = false) (a.1.2 6) ∧ (a.1.2 6 = jI (-1) → a.1.2 2 = jI (-1) ∧ a.1.2 7 = jI 0) ∧ (a.1.2 6 ≠ jI (-1) → a.1.2 2 = jI 4 ∧ a.1.2 7 = jI 1)) 4 (fun i a hi ha LL hLL => ?_) (μ, jI 0) ⟨rfl, rfl, fun _ _ _ _ => rfl, Or.inl ⟨h6, fun z ⟨⟨j, hj, _⟩, _⟩ => absurd hj (Nat.not_lt_zero j)⟩, fun _ => ⟨h2, h7⟩, fun q => absurd h6 q⟩
      obtain ⟨u, y⟩ := a
      obtain ⟨hb1, hb2, hb3, hb4, hb5, hb6⟩ := ha
      dsimp only at hb1 hb2 hb3 hb4 hb5 hb6 ⊢
      subst hb1
      have hSP : ∀ i z : Nat, ((∃ j, j < i ∧ (strt (μ.1 0))[j]? = some z) ∧ isNw (μ.1 0) z = false) → z < 144 ∧ isP (μ.1 0) z = true := fun i z q => by
        obtain ⟨⟨j, _, hj⟩, _⟩ := q
        have := (hW.2.2.2.2.2.2.2.2.2 z).mp (List.mem_of_getElem? hj)
        exact ⟨this.1, bo_t (by omega)⟩
      unfold wb_X7_looksAtStreet_19
      by_cases hi2 : i < 4
      · obtain ⟨z, z1, z2, z3, z4⟩ := strt_c hW (i := i) (by omega)
        have hz3 : aT (μ.1 0) z = 3 := of_decide_eq_true z3
        have hcgF : isNw (μ.1 0) z = true → ∀ z', ((∃ j, j < i + 1 ∧ (strt (μ.1 0))[j]? = some z') ∧ isNw (μ.1 0) z' = false) ↔ ((∃ j, j < i ∧ (strt (μ.1 0))[j]? = some z') ∧ isNw (μ.1 0) z' = false) := fun hn z' => by
          rw [at_next _ i z' z z4]
          constructor
          · rintro ⟨q | q, q2⟩
            · exact ⟨q, q2⟩
            · rw [q, hn] at q2
              cases q2
          · rintro ⟨q, q2⟩
            exact ⟨Or.inl q, q2⟩
        have hcgT : isNw (μ.1 0) z = false → ∀ z', ((∃ j, j < i + 1 ∧ (strt (μ.1 0))[j]? = some z') ∧ isNw (μ.1 0) z' = false) ↔ (((∃ j, j < i ∧ (strt (μ.1 0))[j]? = some z') ∧ isNw (μ.1 0) z' = false) ∨ z' = z) := fun hn z' => by
          rw [at_next _ i z' z z4]
          constructor
          · rintro ⟨q | q, q2⟩
            · exact Or.inl ⟨q, q2⟩
            · exact Or.inr q
          · rintro (q | q)
            · exact ⟨Or.inl q.1, q.2⟩
            · exact ⟨Or.inr q, by rw [q]; exact hn⟩
        have hset : isNw (μ.1 0) z = false → (u.2 6 = jI (-1) ∨ ∃ o : Nat, u.2 6 = jI o ∧ o < 144 ∧ aL (μ.1 0) z < aL (μ.1 0) o) → (∀ s2 : ST, s2 = zsp u 6 (jI (z : Nat)) → (∀ s3 : ST, s3 = zsp s2 2 (jI 4) → (∀ s4 : ST, s4 = zsp s3 7 (jI 1) → (∀ x2 : Int32, x2 = jI (i : Nat) + jI 1 → LL (s4, x2))))) := fun hn ho => by
          refine al (al (al (alE (jI_add _ _) (hLL _ hi2 ⟨rfl, hb2, fun c c2 c6 c7 => (zsp_nq c7).trans ((zsp_nq c2).trans ((zsp_nq c6).trans (hb3 c c2 c6 c7))), ?_, fun q => ?_, fun _ => ⟨(zsp_nq (by decide)).trans zsp_at, zsp_at⟩⟩))))
          · have e6 : (zsp (zsp (zsp u 6 (jI (z : Nat))) 2 (jI 4)) 7 (jI 1)).2 6 = jI (z : Nat) := (zsp_nq (by decide)).trans ((zsp_nq (by decide)).trans zsp_at)
            dsimp only
            rw [e6]
            exact (hb4.take z2 ho).congr (hcgT hn)
          · have e6 : (zsp (zsp (zsp u 6 (jI (z : Nat))) 2 (jI 4)) 7 (jI 1)).2 6 = jI (z : Nat) := (zsp_nq (by decide)).trans ((zsp_nq (by decide)).trans zsp_at)
            exact absurd (e6.symm.trans q) (jne (by omega))
        refine qf (jnle (by omega)) ?_
        refine m_rd (8 + i) (by rw [jI_add]; exact jeq (by omega)) (by omega) (by decide) ?_
        rw [hb2, z1]
        refine m_isNow z2 ?_
        rw [hb2]
        refine qb (fun p => ?_) (fun p => ?_)
        · rcases hb4.ok (hSP i) with h1 | ⟨o, h1, ho, hpo⟩
          · exact qt h1 (hset p (Or.inl h1))
          · refine qf (by rw [h1]; exact jne (by omega)) (m_of (f := 3) z2 (by decide) ?_)
            rw [h1]
            refine m_of (f := 3) ho (by decide) ?_
            rw [hb2, gwj (μ.1 0) (119 + 6 * z + 3), gwj (μ.1 0) (119 + 6 * o + 3)]
            refine qle (gw_lo _ _) (gw_hi _ _) (gw_lo _ _) (gw_hi _ _) (fun d => ?_) (fun d => ?_)
            · refine alE (jI_add _ _) (hLL _ hi2 ⟨rfl, hb2, hb3, ?_, hb5, hb6⟩)
              exact (hb4.keep ⟨o, h1, ho, d⟩).congr (hcgT p)
            · exact hset p (Or.inr ⟨o, h1, ho, d⟩)
        · exact alE (jI_add _ _) (hLL _ hi2 ⟨rfl, hb2, hb3, hb4.congr (hcgF p), hb5, hb6⟩)
      · have e : i = 4 := by omega
        subst e
        refine qt (jle (by decide) (by decide) (by decide)) (hK u hb2 hb3 (hb4.congr (fun z => ?_)) hb5 hb6)
        have hlen := strt_len hW
        unfold mayS
        constructor
        · rintro ⟨q1, q2, q3⟩
          have hm := (hW.2.2.2.2.2.2.2.2.2 z).mpr ⟨q1, of_decide_eq_true q2⟩
          obtain ⟨j, hj⟩ := List.getElem?_of_mem hm
          have := (List.getElem?_eq_some_iff.mp hj).1
          exact ⟨⟨j, by omega, hj⟩, q3⟩
        · rintro ⟨⟨j, _, hj⟩, q3⟩
          have := (hW.2.2.2.2.2.2.2.2.2 z).mp (List.mem_of_getElem? hj)
          exact ⟨this.1, bo_t this.2, q3⟩
    refine key _ (fun v' g1 g2 g3 g4 g5 => ?_)
    rcases g3.ok (fun z q => mayS_P q) with h1 | ⟨o, h1, ho, hpo⟩
    · exact h v' (-1) 0 (-1) g1 g2 (Or.inr ⟨c, _, g3, Or.inl ⟨h1, rfl, rfl, rfl⟩⟩) (g4 h1).1 h1 (g4 h1).2
    · have hne : v'.2 6 ≠ jI (-1) := by rw [h1]; exact jne (by omega)
      exact h v' 4 1 o g1 g2 (Or.inr ⟨c, _, g3, Or.inr ⟨o, h1, ho, rfl, rfl, rfl⟩⟩) (g5 hne).1 h1 (g5 hne).2
  · exact al (h _ 4 0 (-1) rfl (fun c c2 _ _ => zsp_nq c2) (Or.inl ⟨c, rfl, rfl, rfl⟩) zsp_at ((zsp_nq (by decide)).trans h6) ((zsp_nq (by decide)).trans h7))
theorem m_looks {μ : ST} {Q : ST → Prop} (hW : WF (μ.1 0)) (hk : k < 144) (h : ∀ (μ' : ST) (ru : Int) (t s x : Nat) (tk lv : Int), (∀ q : Nat, q ≠ 2 → μ'.1 q = μ.1 q) → (∀ c : Nat, c < 2 ∨ 7 < c → μ'.2 c = μ.2 c) → IsPl (μ.1 0) k ru t s x tk lv → PM μ' ru t s x tk lv → Q μ') : wp_X7_looks μ (jI (k : Nat)) Q := by
  unfold wp_X7_looks
  refine m_is hk (qb (fun p => ?_) (fun p => ?_))
  · refine al (al (al ?_))
    have b2 : (zsp (zsp (zsp μ 2 (jI (-1))) 6 (jI (-1))) 7 (jI 0)).2 2 = jI (-1) := (zsp_nq (by decide)).trans ((zsp_nq (by decide)).trans zsp_at)
    have b6 : (zsp (zsp (zsp μ 2 (jI (-1))) 6 (jI (-1))) 7 (jI 0)).2 6 = jI (-1) := (zsp_nq (by decide)).trans zsp_at
    have b7 : (zsp (zsp (zsp μ 2 (jI (-1))) 6 (jI (-1))) 7 (jI 0)).2 7 = jI 0 := zsp_at
    have bc : ∀ c : Nat, c < 2 ∨ 7 < c → (zsp (zsp (zsp μ 2 (jI (-1))) 6 (jI (-1))) 7 (jI 0)).2 c = μ.2 c := fun c hc => (zsp_nq (by omega)).trans ((zsp_nq (by omega)).trans (zsp_nq (by omega)))
    have b1 : (zsp (zsp (zsp μ 2 (jI (-1))) 6 (jI (-1))) 7 (jI 0)).1 = μ.1 := rfl
    generalize zsp (zsp (zsp μ 2 (jI (-1))) 6 (jI (-1))) 7 (jI 0) = v at *
    have v0 : v.1 0 = μ.1 0 := by rw [b1]
    refine qt b2 (m_gap5 (by rw [v0]; exact hW) hk b2 (fun v1 c1 c3 => ?_))
    rw [v0] at c3
    have d1 : ∀ q : Nat, q ≠ 2 → v1.1 q = μ.1 q := fun q hq => (c1.1 q hq).trans (by rw [b1])
    have d0 : v1.1 0 = μ.1 0 := d1 0 (by decide)
    have dc : ∀ c : Nat, c < 2 ∨ 7 < c → v1.2 c = μ.2 c := fun c hc => (c1.2 c (by omega)).trans (bc c hc)
    have d6 : v1.2 6 = jI (-1) := (c1.2 6 (by decide)).trans b6
    have d7 : v1.2 7 = jI 0 := (c1.2 7 (by decide)).trans b7
    cases hg : (gpS (μ.1 0) k 72).2 with
    | some qx =>
      obtain ⟨q, x⟩ := qx
      rw [hg] at c3
      obtain ⟨e1, e2, e3, e4⟩ := c3
      have hne : ¬ v1.2 2 = jI (-1) := by rw [e1]; exact jne (by decide) (by decide) (by decide) (by decide) (by decide)
      exact qf hne (qf hne (qf hne (h v1 1 (q / 24) (q % 24) x 0 (-1) d1 dc (Or.inr ⟨p, Or.inl ⟨q, hg, rfl, by omega, by omega, rfl, rfl⟩⟩) ⟨e1, fun _ _ => ⟨e2, e3, e4⟩, d6, d7⟩)))
    | none =>
      rw [hg] at c3
      have c3 : v1.2 2 = jI (-1) := c3
      refine qt c3 (m_trays (by rw [d0]; exact hW) hk (fun v2 o f1 f2 => ?_))
      rw [d0] at f1
      have fk := trM_k f2
      have g1 : ∀ q : Nat, q ≠ 2 → v2.1 q = μ.1 q := fun q hq => (by rw [fk.2] : v2.1 q = v1.1 q).trans (d1 q hq)
      have g0 : v2.1 0 = μ.1 0 := g1 0 (by decide)
      have gc : ∀ c : Nat, c < 2 ∨ 7 < c → v2.2 c = μ.2 c := fun c hc => (fk.1.2 c (by omega)).trans (dc c hc)
      have g6 : v2.2 6 = jI (-1) := (fk.1.2 6 (by decide)).trans d6
      have g7 : v2.2 7 = jI 0 := (fk.1.2 7 (by decide)).trans d7
      cases o with
      | some t =>
        obtain ⟨-, -, e1, e2, e3, e4⟩ := f2
        have hb := hW.2.1 t f1.1
        have hne : ¬ v2.2 2 = jI (-1) := by rw [e1]; exact jne (by decide) (by decide) (by decide) (by decide) (by decide)
        refine qf hne (qf hne (h v2 2 t (nS (μ.1 0) t).toNat 0 0 (-1) g1 gc (Or.inr ⟨p, Or.inr ⟨hg, Or.inl ⟨f1, rfl, by omega, rfl, rfl, rfl⟩⟩⟩) ⟨e1, fun _ _ => ⟨e2, ?_, e4⟩, g6, g7⟩))
        rw [e3, d0]
        exact jeq (by omega)
      | none =>
        have f4 : v2.2 2 = jI (-1) := by rw [show v2 = v1 from f2]; exact c3
        refine qt f4 (m_shl4 (by rw [g0]; exact hW) hk f4 (fun v3 y i1 i3 => ?_))
        rw [g0] at i3
        have j1 : ∀ q : Nat, q ≠ 2 → v3.1 q = μ.1 q := fun q hq => (by rw [i1.1] : v3.1 q = v2.1 q).trans (g1 q hq)
        have j0 : v3.1 0 = μ.1 0 := j1 0 (by decide)
        have jc : ∀ c : Nat, c < 2 ∨ 7 < c → v3.2 c = μ.2 c := fun c hc => (i1.2 c (by omega)).trans (gc c hc)
        have j6 : v3.2 6 = jI (-1) := (i1.2 6 (by decide)).trans g6
        cases hs : shP (μ.1 0) k 72 with
        | some qv =>
          obtain ⟨q, vv⟩ := qv
          rw [hs] at i3
          obtain ⟨e1, e2, e3, e4, e5, -⟩ := i3
          have hne : ¬ v3.2 2 = jI (-1) := by rw [e1]; exact jne (by decide) (by decide) (by decide) (by decide) (by decide)
          rw [g0] at e5
          exact qf hne (h v3 3 (q / 24) (q % 24) 0 _ (-1) j1 jc (Or.inr ⟨p, Or.inr ⟨hg, Or.inr ⟨f1, Or.inl ⟨q, vv, hs, rfl, by omega, by omega, rfl, rfl, rfl⟩⟩⟩⟩) ⟨e1, fun _ _ => ⟨e2, e3, e4⟩, j6, e5⟩)
        | none =>
          rw [hs] at i3
          obtain ⟨i3, i4⟩ := i3
          refine qt i3 (m_street (by rw [j0]; exact hW) i3 j6 (i4.trans g7) (fun v4 ru tk lv k1 k2 k3 k4 k5 k6 => ?_))
          rw [j0] at k3
          refine h v4 ru 0 0 0 tk lv (fun q hq => (by rw [k1] : v4.1 q = v3.1 q).trans (j1 q hq)) (fun c hc => (k2 c (by omega) (by omega) (by omega)).trans (jc c hc)) (Or.inr ⟨p, Or.inr ⟨hg, Or.inr ⟨f1, Or.inr ⟨hs, k3⟩⟩⟩⟩) ⟨k4, fun q1 q2 => ?_, k5, k6⟩
          exfalso
          rcases k3 with ⟨_, q3, _⟩ | ⟨_, _, _, ⟨_, q3, _⟩ | ⟨_, _, _, q3, _⟩⟩ <;> omega
  · refine al (al (al ?_))
    have b2 : (zsp (zsp (zsp μ 2 (jI 0)) 6 (jI (-1))) 7 (jI 0)).2 2 = jI 0 := (zsp_nq (by decide)).trans ((zsp_nq (by decide)).trans zsp_at)
    have b6 : (zsp (zsp (zsp μ 2 (jI 0)) 6 (jI (-1))) 7 (jI 0)).2 6 = jI (-1) := (zsp_nq (by decide)).trans zsp_at
    have b7 : (zsp (zsp (zsp μ 2 (jI 0)) 6 (jI (-1))) 7 (jI 0)).2 7 = jI 0 := zsp_at
    have bc : ∀ c : Nat, c < 2 ∨ 7 < c → (zsp (zsp (zsp μ 2 (jI 0)) 6 (jI (-1))) 7 (jI 0)).2 c = μ.2 c := fun c hc => (zsp_nq (by omega)).trans ((zsp_nq (by omega)).trans (zsp_nq (by omega)))
    have b1 : (zsp (zsp (zsp μ 2 (jI 0)) 6 (jI (-1))) 7 (jI 0)).1 = μ.1 := rfl
    generalize zsp (zsp (zsp μ 2 (jI 0)) 6 (jI (-1))) 7 (jI 0) = v at *
    have hne : ¬ v.2 2 = jI (-1) := by rw [b2]; exact jne (by decide) (by decide) (by decide) (by decide) (by decide)
    exact qf hne (qf hne (qf hne (qf hne (h v 0 0 0 0 0 (-1) (fun q _ => by rw [b1]) bc (Or.inl ⟨p, rfl, rfl, rfl⟩) ⟨b2, fun q => absurd q (by decide), b6, b7⟩))))
end MLB
theorem last_75 : True := trivial

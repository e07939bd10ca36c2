/-! a letter is put into the street, or used again; a new shelf -/
section PUS
variable {w : Wd} {k : Nat}
theorem pS_o (hm : 0 ≤ gw w 7 ∧ gw w 7 < 4) {j : Nat} (h2 : j ≠ 2) (h7 : j < 7 ∨ 12 ≤ j) (h : j ≠ 119 + 6 * k ∧ (j < 119 + 6 * k + 3 ∨ 119 + 6 * k + 5 < j)) : putS w k j = w j := by
  unfold putS
  simp (disch := omega) only [upd_o]
theorem pS_i (hm : 0 ≤ gw w 7 ∧ gw w 7 < 4) {i : Nat} (hi : i < (gw w 7).toNat) : putS w k (8 + i) = w (8 + i) := by
  unfold putS
  simp (disch := omega) only [upd_o]
theorem pS_e (hm : 0 ≤ gw w 7 ∧ gw w 7 < 4) : putS w k (8 + (gw w 7).toNat) = jI (k : Nat) := by
  unfold putS
  simp (disch := omega) only [upd_o, upd_at]
theorem pS_7 (hm : 0 ≤ gw w 7 ∧ gw w 7 < 4) : putS w k 7 = jI (gw w 7 + 1) := by
  unfold putS
  simp (disch := omega) only [upd_o, upd_at]
  rw [gwj w 7, jI_add]
theorem pS_0 : putS w k (119 + 6 * k) = jI 3 := by
  unfold putS
  simp (disch := omega) only [upd_o, upd_at]
theorem pS_3 : putS w k (119 + 6 * k + 3) = w 2 + jI 1 := by
  unfold putS
  simp (disch := omega) only [upd_o, upd_at]
theorem pS_4 : putS w k (119 + 6 * k + 4) = w 1 := by
  unfold putS
  simp (disch := omega) only [upd_o, upd_at]
theorem pS_5 : putS w k (119 + 6 * k + 5) = jI 1 := by
  unfold putS
  simp (disch := omega) only [upd_o, upd_at]
theorem pS_c : putS w k 2 = w 2 + jI 1 := by
  unfold putS
  simp (disch := omega) only [upd_o, upd_at]
theorem pS_g (hm : 0 ≤ gw w 7 ∧ gw w 7 < 4) {j : Nat} (h2 : j ≠ 2) (h7 : j < 7 ∨ 12 ≤ j) (h : j ≠ 119 + 6 * k ∧ (j < 119 + 6 * k + 3 ∨ 119 + 6 * k + 5 < j)) : gw (putS w k) j = gw w j := congrArg Int32.toInt (pS_o hm h2 h7 h)
theorem pS_strt (hm : 0 ≤ gw w 7 ∧ gw w 7 < 4) (hk : k < 144) : strt (putS w k) = strt w ++ [k] := by
  have e7 : gw (putS w k) 7 = gw w 7 + 1 := gw_jI (pS_7 hm) (by omega) (by omega)
  unfold strt
  rw [e7, show (gw w 7 + 1).toNat = (gw w 7).toNat + 1 by omega, List.range_succ, List.map_append]
  congr 1
  · refine List.map_congr_left (fun i hi => ?_)
    have := List.mem_range.mp hi
    unfold gw at *
    rw [pS_i hm this]
  · show [(gw (putS w k) (8 + (gw w 7).toNat)).toNat] = [k]
    rw [gw_jI (pS_e hm) (by omega) (by omega), Int.toNat_natCast]
theorem pS_WF (hW : WF w) (hk : k < 144) (hp : isP w k = false) (hm : 0 ≤ gw w 7 ∧ gw w 7 < 4) (hc : 0 ≤ gw w 2 ∧ gw w 2 < 2000000) : WF (putS w k) := by
  have g := fun {j : Nat} => @pS_g w k hm j
  obtain ⟨⟨a1, a2, a3, a4⟩, hb, hc9, hd, he, ⟨f1, f2, f3, f4, f5⟩⟩ := id hW
  have hTk : aT (putS w k) k = 3 := gw_jI pS_0 (by omega) (by omega)
  have hLk : aL (putS w k) k = gw w 2 + 1 := gw_jI (pS_3.trans (w2_1 hc)) (by omega) (by omega)
  have hck : gw (putS w k) 2 = gw w 2 + 1 := gw_jI (pS_c.trans (w2_1 hc)) (by omega) (by omega)
  have e7 : gw (putS w k) 7 = gw w 7 + 1 := gw_jI (pS_7 hm) (by omega) (by omega)
  have hT : ∀ k', k' ≠ k → aT (putS w k) k' = aT w k' := fun k' h => g (by omega) (by omega) (by omega)
  have hS : ∀ k', k' ≠ k → aS (putS w k) k' = aS w k' := fun k' h => g (by omega) (by omega) (by omega)
  have hX : ∀ k', k' ≠ k → aX (putS w k) k' = aX w k' := fun k' h => g (by omega) (by omega) (by omega)
  have hL : ∀ k', k' ≠ k → aL (putS w k) k' = aL w k' := fun k' h => g (by omega) (by omega) (by omega)
  have hw : ∀ k', k' < 144 → wdt (putS w k) k' = wdt w k' := fun k' h => by unfold wdt; rw [g (j := 12 + k' / 9) (by omega) (by omega) (by omega)]
  have hg : ∀ k', k' < 144 → hgt (putS w k) k' = hgt w k' := fun k' h => by unfold hgt; rw [g (j := 28 + k' / 9) (by omega) (by omega) (by omega)]
  have htl : ∀ a b, a < 3 → b < 24 → tl (putS w k) a b = tl w a b := fun a b h1 h2 => g (by omega) (by omega) (by omega)
  have hnS : ∀ a, a < 3 → nS (putS w k) a = nS w a := fun a h1 => g (by omega) (by omega) (by omega)
  have hnT : nT (putS w k) = nT w := g (by omega) (by omega) (by omega)
  have htop : ∀ a, a < 3 → ∀ z, z ≤ 24 → topH (putS w k) a z = topH w a z := fun a h1 z => by
    induction z with
    | zero => intro _; rfl
    | succ z ih =>
      intro h2
      show topH (putS w k) a z + tl (putS w k) a z = topH w a z + tl w a z
      rw [ih (by omega), htl a z h1 (by omega)]
  have hP : ∀ k', k' ≠ k → isP (putS w k) k' = isP w k' := fun k' h => by unfold isP; rw [hT k' h]
  have hkn : k ∉ strt w := fun q => by
    have := (f5 k).mp q
    rw [isP_f hp] at this
    exact absurd this.2 (by decide)
  refine ⟨⟨by rw [hnT]; exact a1, by rw [hnT]; exact a2, fun z hz => by rw [g (by omega) (by omega) (by omega)]; exact a3 z hz, fun z hz => by rw [g (by omega) (by omega) (by omega)]; exact a4 z hz⟩, fun a ha => ?_, fun a ha => ?_, fun a b ha hb9 hne hl hta hsa => ?_, WFe_new he hc.1 hck hLk (fun k' _ h => ⟨hL k' h, hP k' h⟩), ⟨by rw [e7]; omega, by rw [e7]; omega, fun i hi => ?_, by rw [pS_strt hm hk]; exact app_nodup f4 hkn, fun a => ?_⟩⟩
  · rw [hnT] at ha
    obtain ⟨b1, b2, b3, b4⟩ := hb a ha
    have ha3 : a < 3 := by omega
    rw [hnS a ha3]
    exact ⟨b1, b2, fun z hz => by rw [htl a z ha3 (by omega)]; exact b3 z hz, by rw [htop a ha3 _ (by omega)]; exact b4⟩
  · by_cases h : a = k
    · subst h
      exact Or.inr (Or.inl hTk)
    · rw [hT a h, hS a h, hX a h, hw a ha, hg a ha, hnT]
      rcases hc9 a ha with c1 | c1 | ⟨c1, c2, c3, c4, c5, c6, c7⟩
      · exact Or.inl c1
      · exact Or.inr (Or.inl c1)
      · have hb9 := hb (aT w a).toNat (by omega)
        rw [hnS _ (by omega), htl _ _ (by omega) (by omega)]
        exact Or.inr (Or.inr ⟨c1, c2, c3, c4, c5, c6, c7⟩)
  · have hla := isL_t hl
    have h1 : a ≠ k := fun q => by rw [q, hTk] at hla; omega
    have h2 : b ≠ k := fun q => by rw [q, hTk] at hta; omega
    rw [hT a h1] at hla
    rw [hT a h1, hT b h2] at hta
    rw [hS a h1, hS b h2] at hsa
    rw [hX a h1, hX b h2, hw a ha, hw b hb9]
    exact hd a b ha hb9 hne (bo_t hla) hta hsa
  · rw [e7] at hi
    by_cases h : i = (gw w 7).toNat
    · subst h
      rw [gw_jI (pS_e hm) (by omega) (by omega)]
      omega
    · rw [show gw (putS w k) (8 + i) = gw w (8 + i) from congrArg Int32.toInt (pS_i hm (by omega))]
      exact f3 i (by omega)
  · rw [pS_strt hm hk, List.mem_append, List.mem_singleton, f5 a]
    by_cases h : a = k
    · subst h
      rw [hTk]
      exact ⟨fun _ => ⟨hk, rfl⟩, fun _ => Or.inr rfl⟩
    · rw [hT a h]
      exact ⟨fun q => q.resolve_right h, fun q => Or.inl q⟩
theorem pS_RC {r r' : Nat → Nat → Int32} {c c' : Nat → Int32} {l : List Nat} {lf rt : Int32} (hW : WF w) (hR : RC r c w l) (hk : k < 144) (hp : isP w k = false) (hm : 0 ≤ gw w 7 ∧ gw w 7 < 4) (hC : PutC r r' c c' k l.length (jI (-1)) lf rt) : RC r' c' (putS w k) (l ++ [k]) := by
  have g := fun {j : Nat} => @pS_o w k hm j
  obtain ⟨p1, p2, p3, p4, p5, p6, p7, p8, p9, p10, p11⟩ := hC
  obtain ⟨⟨a1, a2, a3⟩, hb, ⟨l1, l2, l3, l4⟩, ⟨c0, c1, c2, c3, c4, c5, c6, c7⟩⟩ := hR
  have hTk : aT (putS w k) k = 3 := gw_jI pS_0 (by omega) (by omega)
  have hT : ∀ k', k' ≠ k → aT (putS w k) k' = aT w k' := fun k' h => pS_g hm (by omega) (by omega) (by omega)
  have hS : ∀ k', k' ≠ k → aS (putS w k) k' = aS w k' := fun k' h => pS_g hm (by omega) (by omega) (by omega)
  have hX : ∀ k', k' ≠ k → aX (putS w k) k' = aX w k' := fun k' h => pS_g hm (by omega) (by omega) (by omega)
  have hw : ∀ k', k' < 144 → wdt (putS w k) k' = wdt w k' := fun k' h => by unfold wdt; rw [pS_g hm (j := 12 + k' / 9) (by omega) (by omega) (by omega)]
  have hkl : k ∉ l := fun q => by
    have := (l3 k).mp q
    rw [hp] at this
    cases this.2
  refine ⟨⟨fun z hz => ?_, fun z hz => ?_, fun a z ha hz => ?_⟩, fun a ha => ?_, ⟨fun i z hi => by rw [p8]; exact get_app l k l1 i z hi, app_nodup l2 hkl, fun a => ?_, ?_⟩, ⟨?_, ?_, ?_, ?_, ?_, ?_, ?_, ?_⟩⟩
  · rw [p1 0 (by decide), g (by omega) (by omega) (by omega)]
    exact a1 z hz
  · rw [p1 1 (by decide), g (by omega) (by omega) (by omega)]
    exact a2 z hz
  · rw [p1 2 (by decide), show nT (putS w k) = nT w from pS_g hm (by omega) (by omega) (by omega), show nS (putS w k) a = nS w a from pS_g hm (by omega) (by omega) (by omega), g (by omega) (by omega) (by omega)]
    exact a3 a z ha hz
  · obtain ⟨b1, b2, b3⟩ := hb a ha
    by_cases h : a = k
    · subst h
      have hl : isL (putS w a) a = false := bo_f (by rw [hTk]; omega)
      rw [p2, p5, p6, p7.1, upd_at, upd_at, upd_at, pS_3, pS_4, pS_5, hl]
      refine ⟨jeq ?_, fun q => (by cases q), fun _ => ⟨by rw [c3], c2, rfl⟩⟩
      unfold slo
      rw [hTk, if_neg (by omega), if_pos rfl]
    · rw [p2, p3, p4, p5, p6, p7.2 a h, upd_o h, upd_o h, upd_o h, upd_o h, upd_o h, hX a h, hw a ha, g (j := 119 + 6 * a + 3) (by omega) (by omega) (by omega), g (j := 119 + 6 * a + 4) (by omega) (by omega) (by omega), g (j := 119 + 6 * a + 5) (by omega) (by omega) (by omega)]
      unfold slo isL isP at *
      rw [hT a h, hS a h]
      exact ⟨b1, b2, b3⟩
  · rw [List.mem_append, List.mem_singleton, l3 a]
    by_cases h : a = k
    · subst h
      have : isP (putS w a) a = true := bo_t (by rw [hTk]; omega)
      exact ⟨fun _ => ⟨hk, this⟩, fun _ => Or.inr rfl⟩
    · have : isP (putS w k) a = isP w a := by unfold isP; rw [hT a h]
      rw [this]
      exact ⟨fun q => q.resolve_right h, fun q => Or.inl q⟩
  · rw [List.filter_append, pS_strt hm hk, ← l4]
    congr 1
    · exact List.filter_congr (fun z hz => by rw [hT z (fun q => hkl (by rw [← q]; exact hz))])
    · rw [List.filter_cons_of_pos]
      · rfl
      · rw [hTk]
        rfl
  · rw [p9, List.length_append]
    rfl
  · exact (p11 1 (by decide) (by decide)).trans (c1.trans (g (by decide) (by omega) (by omega)).symm)
  · exact (p11 2 (by decide) (by decide)).trans (c2.trans (g (by decide) (by omega) (by omega)).symm)
  · rw [p10, c3, pS_c]
  · exact (p11 4 (by decide) (by decide)).trans (c4.trans (g (by decide) (by omega) (by omega)).symm)
  · exact (p11 5 (by decide) (by decide)).trans (c5.trans (g (by decide) (by omega) (by omega)).symm)
  · exact (p11 6 (by decide) (by decide)).trans (c6.trans (g (by decide) (by omega) (by omega)).symm)
  · exact (p11 7 (by decide) (by decide)).trans (c7.trans (g (by decide) (by omega) (by omega)).symm)
theorem hW_o {j : Nat} (h2 : j ≠ 2) (h3 : j ≠ 3) (h : j < 119 + 6 * k + 3 ∨ 119 + 6 * k + 5 < j) : hitW w k j = w j := by
  unfold hitW
  simp (disch := omega) only [upd_o]
theorem hW_g {j : Nat} (h2 : j ≠ 2) (h3 : j ≠ 3) (h : j < 119 + 6 * k + 3 ∨ 119 + 6 * k + 5 < j) : gw (hitW w k) j = gw w j := congrArg Int32.toInt (hW_o h2 h3 h)
theorem hW_3 : hitW w k (119 + 6 * k + 3) = w 2 + jI 1 := by
  unfold hitW
  simp (disch := omega) only [upd_o, upd_at]
theorem hW_4 : hitW w k (119 + 6 * k + 4) = w 1 := by
  unfold hitW
  simp (disch := omega) only [upd_o, upd_at]
theorem hW_5 : hitW w k (119 + 6 * k + 5) = w (119 + 6 * k + 5) + jI 1 := by
  unfold hitW
  simp (disch := omega) only [upd_o, upd_at]
theorem hW_c : hitW w k 2 = w 2 + jI 1 := by
  unfold hitW
  simp (disch := omega) only [upd_o, upd_at]
theorem hW_h : hitW w k 3 = w 3 + jI 1 := by
  unfold hitW
  simp (disch := omega) only [upd_o, upd_at]
theorem hW_WF (hW : WF w) (hk : k < 144) (hc : 0 ≤ gw w 2 ∧ gw w 2 < 2000000) : WF (hitW w k) := by
  have g := fun {j : Nat} => @hW_g w k j
  obtain ⟨⟨a1, a2, a3, a4⟩, hb, hc9, hd, he, ⟨f1, f2, f3, f4, f5⟩⟩ := id hW
  have hLk : aL (hitW w k) k = gw w 2 + 1 := gw_jI (hW_3.trans (w2_1 hc)) (by omega) (by omega)
  have hck : gw (hitW w k) 2 = gw w 2 + 1 := gw_jI (hW_c.trans (w2_1 hc)) (by omega) (by omega)
  have hT : ∀ k', aT (hitW w k) k' = aT w k' := fun k' => g (by omega) (by omega) (by omega)
  have hS : ∀ k', aS (hitW w k) k' = aS w k' := fun k' => g (by omega) (by omega) (by omega)
  have hX : ∀ k', aX (hitW w k) k' = aX w k' := fun k' => g (by omega) (by omega) (by omega)
  have hL : ∀ k', k' ≠ k → aL (hitW w k) k' = aL w k' := fun k' h => g (by omega) (by omega) (by omega)
  have hw : ∀ k', k' < 144 → wdt (hitW w k) k' = wdt w k' := fun k' h => by unfold wdt; rw [g (j := 12 + k' / 9) (by omega) (by omega) (by omega)]
  have hg : ∀ k', k' < 144 → hgt (hitW w k) k' = hgt w k' := fun k' h => by unfold hgt; rw [g (j := 28 + k' / 9) (by omega) (by omega) (by omega)]
  have htl : ∀ a b, a < 3 → b < 24 → tl (hitW w k) a b = tl w a b := fun a b h1 h2 => g (by omega) (by omega) (by omega)
  have hnS : ∀ a, a < 3 → nS (hitW w k) a = nS w a := fun a h1 => g (by omega) (by omega) (by omega)
  have hnT : nT (hitW w k) = nT w := g (by omega) (by omega) (by omega)
  have htop : ∀ a, a < 3 → ∀ z, z ≤ 24 → topH (hitW w k) a z = topH w a z := fun a h1 z => by
    induction z with
    | zero => intro _; rfl
    | succ z ih =>
      intro h2
      show topH (hitW w k) a z + tl (hitW w k) a z = topH w a z + tl w a z
      rw [ih (by omega), htl a z h1 (by omega)]
  have hst : strt (hitW w k) = strt w := by
    unfold strt
    rw [g (by omega) (by omega) (by omega)]
    refine List.map_congr_left (fun i hi => ?_)
    have := List.mem_range.mp hi
    rw [g (by omega) (by omega) (by omega)]
  have hP : ∀ k', isP (hitW w k) k' = isP w k' := fun k' => by unfold isP; rw [hT k']
  refine ⟨⟨by rw [hnT]; exact a1, by rw [hnT]; exact a2, fun z hz => by rw [g (by omega) (by omega) (by omega)]; exact a3 z hz, fun z hz => by rw [g (by omega) (by omega) (by omega)]; exact a4 z hz⟩, fun a ha => ?_, fun a ha => ?_, fun a b ha hb9 hne hl hta hsa => ?_, WFe_new he hc.1 hck hLk (fun k' _ h => ⟨hL k' h, hP k'⟩), ⟨by rw [g (by omega) (by omega) (by omega)]; exact f1, by rw [g (by omega) (by omega) (by omega)]; exact f2, fun i hi => ?_, by rw [hst]; exact f4, fun a => by rw [hst, hT]; exact f5 a⟩⟩
  · rw [hnT] at ha
    obtain ⟨b1, b2, b3, b4⟩ := hb a ha
    have ha3 : a < 3 := by omega
    rw [hnS a ha3]
    exact ⟨b1, b2, fun z hz => by rw [htl a z ha3 (by omega)]; exact b3 z hz, by rw [htop a ha3 _ (by omega)]; exact b4⟩
  · rw [hT, hS, hX, hw a ha, hg a ha, hnT]
    rcases hc9 a ha with c1 | c1 | ⟨c1, c2, c3, c4, c5, c6, c7⟩
    · exact Or.inl c1
    · exact Or.inr (Or.inl c1)
    · have hb9 := hb (aT w a).toNat (by omega)
      rw [hnS _ (by omega), htl _ _ (by omega) (by omega)]
      exact Or.inr (Or.inr ⟨c1, c2, c3, c4, c5, c6, c7⟩)
  · have hla : isL w a = true := by
      unfold isL at hl ⊢
      rw [hT a] at hl
      exact hl
    rw [hT, hT] at hta
    rw [hS, hS] at hsa
    rw [hX, hX, hw a ha, hw b hb9]
    exact hd a b ha hb9 hne hla hta hsa
  · rw [g (by omega) (by omega) (by omega)] at hi
    rw [g (by omega) (by omega) (by omega)]
    exact f3 i hi
def HitC (r r' : Nat → Nat → Int32) (c c' : Nat → Int32) (k : Nat) : Prop := (∀ q : Nat, q < 6 ∨ 8 < q → r' q = r q) ∧ r' 6 = upd (r 6) k (c 3 + jI 1) ∧ r' 7 = upd (r 7) k (c 2) ∧ r' 8 = upd (r 8) k (r 8 k + jI 1) ∧ c' 3 = c 3 + jI 1 ∧ c' 4 = c 4 + jI 1 ∧ ∀ j : Nat, j ≠ 3 → j ≠ 4 → c' j = c j
theorem hW_RC {r r' : Nat → Nat → Int32} {c c' : Nat → Int32} {l : List Nat} (hW : WF w) (hR : RC r c w l) (hk : k < 144) (hp : isP w k = true) (hC : HitC r r' c c' k) : RC r' c' (hitW w k) l := by
  have g := fun {j : Nat} => @hW_o w k j
  obtain ⟨p1, p2, p3, p4, p5, p6, p7⟩ := hC
  obtain ⟨⟨a1, a2, a3⟩, hb, ⟨l1, l2, l3, l4⟩, ⟨c0, c1, c2, c3, c4, c5, c6, c7⟩⟩ := hR
  have hT : ∀ k', aT (hitW w k) k' = aT w k' := fun k' => hW_g (by omega) (by omega) (by omega)
  have hS : ∀ k', aS (hitW w k) k' = aS w k' := fun k' => hW_g (by omega) (by omega) (by omega)
  have hX : ∀ k', aX (hitW w k) k' = aX w k' := fun k' => hW_g (by omega) (by omega) (by omega)
  have hw : ∀ k', k' < 144 → wdt (hitW w k) k' = wdt w k' := fun k' h => by unfold wdt; rw [hW_g (j := 12 + k' / 9) (by omega) (by omega) (by omega)]
  have hP : ∀ k', isP (hitW w k) k' = isP w k' := fun k' => by unfold isP; rw [hT k']
  have hL : ∀ k', isL (hitW w k) k' = isL w k' := fun k' => by unfold isL; rw [hT k']
  have e7 : gw (hitW w k) 7 = gw w 7 := hW_g (by omega) (by omega) (by omega)
  refine ⟨⟨fun z hz => ?_, fun z hz => ?_, fun a z ha hz => ?_⟩, fun a ha => ?_, ⟨fun i z hi => by rw [p1 9 (by decide)]; exact l1 i z hi, l2, fun a => by rw [hP]; exact l3 a, ?_⟩, ⟨?_, ?_, ?_, ?_, ?_, ?_, ?_, ?_⟩⟩
  · rw [p1 0 (by decide), g (by omega) (by omega) (by omega)]
    exact a1 z hz
  · rw [p1 1 (by decide), g (by omega) (by omega) (by omega)]
    exact a2 z hz
  · rw [p1 2 (by decide), show nT (hitW w k) = nT w from hW_g (by omega) (by omega) (by omega), show nS (hitW w k) a = nS w a from hW_g (by omega) (by omega) (by omega), g (by omega) (by omega) (by omega)]
    exact a3 a z ha hz
  · obtain ⟨b1, b2, b3⟩ := hb a ha
    rw [p1 3 (by decide), p1 4 (by decide), p1 5 (by decide), p2, p3, p4, hL, hP, hX, hw a ha]
    have es : slo (hitW w k) a = slo w a := by unfold slo; rw [hT, hS]
    rw [es]
    refine ⟨b1, b2, fun q => ?_⟩
    obtain ⟨d1, d2, d3⟩ := b3 q
    by_cases h : a = k
    · subst h
      rw [upd_at, upd_at, upd_at, hW_3, hW_4, hW_5, c3, c2, d3]
      exact ⟨rfl, rfl, rfl⟩
    · rw [upd_o h, upd_o h, upd_o h, g (j := 119 + 6 * a + 3) (by omega) (by omega) (by omega), g (j := 119 + 6 * a + 4) (by omega) (by omega) (by omega), g (j := 119 + 6 * a + 5) (by omega) (by omega) (by omega)]
      exact ⟨d1, d2, d3⟩
  · have hst : strt (hitW w k) = strt w := by
      unfold strt
      rw [e7]
      refine List.map_congr_left (fun i hi => ?_)
      have := List.mem_range.mp hi
      have f2 := hW.2.2.2.2.2.2.1
      rw [hW_g (by omega) (by omega) (by omega)]
    rw [hst, ← l4]
    exact List.filter_congr (fun z hz => by rw [hT z])
  · exact (p7 0 (by decide) (by decide)).trans c0
  · exact (p7 1 (by decide) (by decide)).trans (c1.trans (g (by decide) (by omega) (by omega)).symm)
  · exact (p7 2 (by decide) (by decide)).trans (c2.trans (g (by decide) (by omega) (by omega)).symm)
  · rw [p5, c3, hW_c]
  · rw [p6, c4, hW_h]
  · exact (p7 5 (by decide) (by decide)).trans (c5.trans (g (by decide) (by omega) (by omega)).symm)
  · exact (p7 6 (by decide) (by decide)).trans (c6.trans (g (by decide) (by omega) (by omega)).symm)
  · exact (p7 7 (by decide) (by decide)).trans (c7.trans (g (by decide) (by omega) (by omega)).symm)
end PUS
theorem last_78 : True := trivial

/-! a letter is put, or used again -/
def putL (w : Wd) (k t s x : Nat) : Wd := upd (upd (upd (upd (upd (upd (upd w (119 + 6 * k) (jI (t : Nat))) (119 + 6 * k + 1) (jI (s : Nat))) (119 + 6 * k + 2) (jI (x : Nat))) (119 + 6 * k + 5) (jI 1)) 2 (w 2 + jI 1)) (119 + 6 * k + 3) (w 2 + jI 1)) (119 + 6 * k + 4) (w 1)
def putS (w : Wd) (k : Nat) : Wd := upd (upd (upd (upd (upd (upd (upd w (8 + (gw w 7).toNat) (jI (k : Nat))) 7 (w 7 + jI 1)) (119 + 6 * k) (jI 3)) (119 + 6 * k + 5) (jI 1)) 2 (w 2 + jI 1)) (119 + 6 * k + 3) (w 2 + jI 1)) (119 + 6 * k + 4) (w 1)
def hitW (w : Wd) (k : Nat) : Wd := upd (upd (upd (upd (upd w 3 (w 3 + jI 1)) 2 (w 2 + jI 1)) (119 + 6 * k + 3) (w 2 + jI 1)) (119 + 6 * k + 4) (w 1)) (119 + 6 * k + 5) (w (119 + 6 * k + 5) + jI 1)
theorem WFe_new {w w' : Wd} {k : Nat} (he : WFe w) (h0 : 0 ≤ gw w 2) (hc : gw w' 2 = gw w 2 + 1) (hk : aL w' k = gw w 2 + 1) (ho : ∀ k', k' < 144 → k' ≠ k → aL w' k' = aL w k' ∧ isP w' k' = isP w k') : WFe w' := by
  obtain ⟨e1, e2⟩ := he
  refine ⟨fun k' hk' hp => ?_, fun a b ha hb hpa hpb hq => ?_⟩
  · by_cases h : k' = k
    · rw [h, hk, hc]
      omega
    · obtain ⟨q1, q2⟩ := ho k' hk' h
      rw [q2] at hp
      rw [q1, hc]
      have := e1 k' hk' hp
      omega
  · by_cases h1 : a = k
    · by_cases h2 : b = k
      · rw [h1, h2]
      · obtain ⟨q1, q2⟩ := ho b hb h2
        rw [q2] at hpb
        have := (e1 b hb hpb).2
        rw [h1, hk, q1] at hq
        omega
    · obtain ⟨q1, q2⟩ := ho a ha h1
      rw [q2] at hpa
      by_cases h2 : b = k
      · have := (e1 a ha hpa).2
        rw [h2, hk, q1] at hq
        omega
      · obtain ⟨q3, q4⟩ := ho b hb h2
        rw [q4] at hpb
        rw [q1, q3] at hq
        exact e2 a b ha hb hpa hpb hq
section PUT
variable {w : Wd} {k : Nat}
theorem w2_1 (hc : 0 ≤ gw w 2 ∧ gw w 2 < 2000000) : w 2 + jI 1 = jI (gw w 2 + 1) := by rw [gwj w 2, jI_add]
theorem pL_o {t s x j : Nat} (h2 : j ≠ 2) (h : j < 119 + 6 * k ∨ 119 + 6 * k + 5 < j) : putL w k t s x j = w j := by
  unfold putL
  simp (disch := omega) only [upd_o]
theorem pL_0 {t s x : Nat} : putL w k t s x (119 + 6 * k) = jI (t : Nat) := by
  unfold putL
  simp (disch := omega) only [upd_o, upd_at]
theorem pL_1 {t s x : Nat} : putL w k t s x (119 + 6 * k + 1) = jI (s : Nat) := by
  unfold putL
  simp (disch := omega) only [upd_o, upd_at]
theorem pL_2 {t s x : Nat} : putL w k t s x (119 + 6 * k + 2) = jI (x : Nat) := by
  unfold putL
  simp (disch := omega) only [upd_o, upd_at]
theorem pL_3 {t s x : Nat} : putL w k t s x (119 + 6 * k + 3) = w 2 + jI 1 := by
  unfold putL
  simp (disch := omega) only [upd_o, upd_at]
theorem pL_4 {t s x : Nat} : putL w k t s x (119 + 6 * k + 4) = w 1 := by
  unfold putL
  simp (disch := omega) only [upd_o, upd_at]
theorem pL_5 {t s x : Nat} : putL w k t s x (119 + 6 * k + 5) = jI 1 := by
  unfold putL
  simp (disch := omega) only [upd_o, upd_at]
theorem pL_c {t s x : Nat} : putL w k t s x 2 = w 2 + jI 1 := by
  unfold putL
  simp (disch := omega) only [upd_o, upd_at]
theorem pL_g {t s x j : Nat} (h2 : j ≠ 2) (h : j < 119 + 6 * k ∨ 119 + 6 * k + 5 < j) : gw (putL w k t s x) j = gw w j := congrArg Int32.toInt (pL_o h2 h)
theorem FF_no {t s x n : Nat} (hk : ∀ k', k' < 144 → 1 ≤ wdt w k') (hf : FF (fr w t s) x n) (hn : 1 ≤ n) (k' : Nat) (hk' : k' < 144) (ho : isO w k' t s = true) (hX : 0 ≤ aX w k') : (x : Int) + n ≤ aX w k' ∨ aX w k' + wdt w k' ≤ x := by
  by_cases h1 : (x : Int) + n ≤ aX w k'
  · exact Or.inl h1
  · by_cases h2 : aX w k' + wdt w k' ≤ x
    · exact Or.inr h2
    · exfalso
      have hw := hk k' hk'
      have hi := hf.2 (max x (aX w k').toNat - x) (by omega)
      have e : x + (max x (aX w k').toNat - x) = max x (aX w k').toNat := by omega
      rw [e] at hi
      unfold fr at hi
      have hcv : cv w t s (max x (aX w k').toNat) = true := by
        unfold cv
        rw [List.any_eq_true]
        refine ⟨k', List.mem_range.mpr hk', ?_⟩
        unfold cg1
        rw [ho, Bool.true_and]
        exact bo_t (by omega)
      rw [hcv] at hi
      cases hi
theorem pL_WF {t s x : Nat} (hW : WF w) (hk : k < 144) (hp : isP w k = false) (ht : (t : Int) < nT w) (hs : (s : Int) < nS w t) (hx : (x : Int) + wdt w k ≤ 24) (hh : hgt w k ≤ tl w t s) (hno : ∀ k', k' < 144 → isO w k' t s = true → (x : Int) + wdt w k ≤ aX w k' ∨ aX w k' + wdt w k' ≤ x) (hc : 0 ≤ gw w 2 ∧ gw w 2 < 2000000) : WF (putL w k t s x) := by
  have g := fun {j : Nat} => @pL_g w k t s x j
  obtain ⟨⟨a1, a2, a3, a4⟩, hb, hc9, hd, he, ⟨f1, f2, f3, f4, f5⟩⟩ := id hW
  have ht3 : t < 3 := by omega
  have hTk : aT (putL w k t s x) k = t := gw_jI pL_0 (by omega) (by omega)
  have hbt := hb t ht
  have hSk : aS (putL w k t s x) k = s := gw_jI pL_1 (by omega) (by omega)
  have hwk := wdt_b hW hk
  have hXk : aX (putL w k t s x) k = x := gw_jI pL_2 (by omega) (by omega)
  have hLk : aL (putL w k t s x) k = gw w 2 + 1 := gw_jI (pL_3.trans (w2_1 hc)) (by omega) (by omega)
  have hck : gw (putL w k t s x) 2 = gw w 2 + 1 := gw_jI (pL_c.trans (w2_1 hc)) (by omega) (by omega)
  have hT : ∀ k', k' ≠ k → aT (putL w k t s x) k' = aT w k' := fun k' h => g (by omega) (by omega)
  have hS : ∀ k', k' ≠ k → aS (putL w k t s x) k' = aS w k' := fun k' h => g (by omega) (by omega)
  have hX : ∀ k', k' ≠ k → aX (putL w k t s x) k' = aX w k' := fun k' h => g (by omega) (by omega)
  have hL : ∀ k', k' ≠ k → aL (putL w k t s x) k' = aL w k' := fun k' h => g (by omega) (by omega)
  have hw : ∀ k', k' < 144 → wdt (putL w k t s x) k' = wdt w k' := fun k' h => by unfold wdt; rw [g (j := 12 + k' / 9) (by omega) (by omega)]
  have hg : ∀ k', k' < 144 → hgt (putL w k t s x) k' = hgt w k' := fun k' h => by unfold hgt; rw [g (j := 28 + k' / 9) (by omega) (by omega)]
  have htl : ∀ a b, a < 3 → b < 24 → tl (putL w k t s x) a b = tl w a b := fun a b h1 h2 => g (by omega) (by omega)
  have hnS : ∀ a, a < 3 → nS (putL w k t s x) a = nS w a := fun a h1 => g (by omega) (by omega)
  have hnT : nT (putL w k t s x) = nT w := g (by omega) (by omega)
  have htop : ∀ a, a < 3 → ∀ z, z ≤ 24 → topH (putL w k t s x) a z = topH w a z := fun a h1 z => by
    induction z with
    | zero => intro _; rfl
    | succ z ih =>
      intro h2
      show topH (putL w k t s x) a z + tl (putL w k t s x) a z = topH w a z + tl w a z
      rw [ih (by omega), htl a z h1 (by omega)]
  have hst : strt (putL w k t s x) = strt w := by
    unfold strt
    rw [g (by omega) (by omega)]
    refine List.map_congr_left (fun i hi => ?_)
    have := List.mem_range.mp hi
    rw [g (by omega) (by omega)]
  have hP : ∀ k', k' ≠ k → isP (putL w k t s x) k' = isP w k' := fun k' h => by unfold isP; rw [hT k' h]
  refine ⟨⟨by rw [hnT]; exact a1, by rw [hnT]; exact a2, fun z hz => by rw [g (by omega) (by omega)]; exact a3 z hz, fun z hz => by rw [g (by omega) (by omega)]; exact a4 z hz⟩, fun a ha => ?_, fun a ha => ?_, fun a b ha hb9 hne hl hta hsa => ?_, WFe_new he hc.1 hck hLk (fun k' _ h => ⟨hL k' h, hP k' h⟩), ⟨by rw [g (by omega) (by omega)]; exact f1, by rw [g (by omega) (by omega)]; exact f2, fun i hi => ?_, by rw [hst]; exact f4, fun a => ?_⟩⟩
  · rw [hnT] at ha
    obtain ⟨b1, b2, b3, b4⟩ := hb a ha
    have ha3 : a < 3 := by omega
    rw [hnS a ha3]
    exact ⟨b1, b2, fun z hz => by rw [htl a z ha3 (by omega)]; exact b3 z hz, by rw [htop a ha3 _ (by omega)]; exact b4⟩
  · by_cases h : a = k
    · subst h
      rw [hTk, hSk, hXk, hw a ha, hg a ha, hnT, Int.toNat_natCast, Int.toNat_natCast, hnS t ht3, htl t s ht3 (by omega)]
      exact Or.inr (Or.inr ⟨by omega, ht, by omega, hs, by omega, hx, hh⟩)
    · rw [hT a h, hS a h, hX a h, hw a ha, hg a ha, hnT]
      rcases hc9 a ha with c1 | c1 | ⟨c1, c2, c3, c4, c5, c6, c7⟩
      · exact Or.inl c1
      · exact Or.inr (Or.inl c1)
      · have hb9 := hb (aT w a).toNat (by omega)
        rw [hnS _ (by omega), htl _ _ (by omega) (by omega)]
        exact Or.inr (Or.inr ⟨c1, c2, c3, c4, c5, c6, c7⟩)
  · by_cases h1 : a = k
    · have h2 : b ≠ k := fun q => hne (by rw [h1, q])
      rw [h1, hT b h2, hTk] at hta
      rw [h1, hS b h2, hSk] at hsa
      rw [h1, hX b h2, hXk, hw k hk, hw b hb9]
      exact hno b hb9 (bo_t ⟨hta, hsa⟩)
    · have hla : isL w a = true := by
        unfold isL at hl ⊢
        rw [hT a h1] at hl
        exact hl
      by_cases h2 : b = k
      · rw [h2, hTk, hT a h1] at hta
        rw [h2, hSk, hS a h1] at hsa
        rw [h2, hX a h1, hXk, hw k hk, hw a ha]
        exact (hno a ha (bo_t ⟨hta.symm, hsa.symm⟩)).symm
      · rw [hT a h1, hT b h2] at hta
        rw [hS a h1, hS b h2] at hsa
        rw [hX a h1, hX b h2, hw a ha, hw b hb9]
        exact hd a b ha hb9 hne hla hta hsa
  · rw [g (by omega) (by omega)] at hi
    rw [g (by omega) (by omega)]
    exact f3 i hi
  · rw [hst, f5 a]
    by_cases h : a = k
    · subst h
      rw [hTk, isP_f hp]
      constructor
      · intro q
        exact absurd q.2 (by decide)
      · intro q
        have := q.2
        omega
    · rw [hT a h]
/-- the class's rows behind a letter that is put -/
def PutC (r r' : Nat → Nat → Int32) (c c' : Nat → Int32) (k n : Nat) (sl lf rt : Int32) : Prop := (∀ q : Nat, q < 3 → r' q = r q) ∧ r' 3 = upd (r 3) k sl ∧ r' 4 = upd (r 4) k lf ∧ r' 5 = upd (r 5) k rt ∧ r' 6 = upd (r 6) k (c 3 + jI 1) ∧ r' 7 = upd (r 7) k (c 2) ∧ (r' 8 k = jI 1 ∧ ∀ p : Nat, p ≠ k → r' 8 p = r 8 p) ∧ r' 9 = upd (r 9) n (jI (k : Nat)) ∧ c' 0 = jI ((n + 1 : Nat) : Int) ∧ c' 3 = c 3 + jI 1 ∧ ∀ j : Nat, j ≠ 0 → j ≠ 3 → c' j = c j
theorem get_app (l : List Nat) (k : Nat) {r : Nat → Int32} (h : ∀ i z : Nat, l[i]? = some z → r i = jI (z : Nat)) (i z : Nat) (hi : (l ++ [k])[i]? = some z) : upd r l.length (jI (k : Nat)) i = jI (z : Nat) := by
  by_cases hil : i = l.length
  · subst hil
    rw [List.getElem?_append_right (Nat.le_refl _), Nat.sub_self] at hi
    cases hi
    exact upd_at
  · have hi2 := (List.getElem?_eq_some_iff.mp hi).1
    rw [List.length_append] at hi2
    have hi3 : i < l.length := by
      have : [k].length = 1 := rfl
      omega
    rw [List.getElem?_append_left hi3] at hi
    rw [upd_o hil]
    exact h i z hi
theorem app_nodup {l : List Nat} {k : Nat} (h : l.Nodup) (hk : k ∉ l) : (l ++ [k]).Nodup := by
  rw [List.nodup_append]
  exact ⟨h, List.nodup_cons.mpr ⟨List.not_mem_nil, List.nodup_nil⟩, fun a ha b hb q => hk (by rw [← List.mem_singleton.mp hb, ← q]; exact ha)⟩
theorem pL_RC {t s x : Nat} {r r' : Nat → Nat → Int32} {c c' : Nat → Int32} {l : List Nat} (hW : WF w) (hR : RC r c w l) (hk : k < 144) (hp : isP w k = false) (ht : (t : Int) < nT w) (hs : (s : Int) < nS w t) (hx : (x : Int) + wdt w k ≤ 24) (hC : PutC r r' c c' k l.length (jI ((24 * t + s : Nat) : Int)) (jI (x : Nat)) (jI ((x : Int) + wdt w k))) : RC r' c' (putL w k t s x) (l ++ [k]) := by
  have g := fun {j : Nat} => @pL_o w k t s x j
  have hbt := hW.2.1 t ht
  have ht3 : t < 3 := by have := hW.1.2.1; omega
  have hwk := wdt_b hW hk
  obtain ⟨p1, p2, p3, p4, p5, p6, p7, p8, p9, p10, p11⟩ := hC
  obtain ⟨⟨a1, a2, a3⟩, hb, ⟨l1, l2, l3, l4⟩, ⟨c0, c1, c2, c3, c4, c5, c6, c7⟩⟩ := hR
  have f2 := hW.2.2.2.2.2.2.1
  have hTk : aT (putL w k t s x) k = t := gw_jI pL_0 (by omega) (by omega)
  have hSk : aS (putL w k t s x) k = s := gw_jI pL_1 (by omega) (by omega)
  have hXk : aX (putL w k t s x) k = x := gw_jI pL_2 (by omega) (by omega)
  have hT : ∀ k', k' ≠ k → aT (putL w k t s x) k' = aT w k' := fun k' h => pL_g (by omega) (by omega)
  have hS : ∀ k', k' ≠ k → aS (putL w k t s x) k' = aS w k' := fun k' h => pL_g (by omega) (by omega)
  have hX : ∀ k', k' ≠ k → aX (putL w k t s x) k' = aX w k' := fun k' h => pL_g (by omega) (by omega)
  have hw : ∀ k', k' < 144 → wdt (putL w k t s x) k' = wdt w k' := fun k' h => by unfold wdt; rw [pL_g (j := 12 + k' / 9) (by omega) (by omega)]
  have hst : strt (putL w k t s x) = strt w := by
    unfold strt
    rw [pL_g (by omega) (by omega)]
    refine List.map_congr_left (fun i hi => ?_)
    have := List.mem_range.mp hi
    rw [pL_g (by omega) (by omega)]
  have hkl : k ∉ l := fun q => by
    have := (l3 k).mp q
    rw [hp] at this
    cases this.2
  refine ⟨⟨fun z hz => ?_, fun z hz => ?_, fun a z ha hz => ?_⟩, fun a ha => ?_, ⟨fun i z hi => by rw [p8]; exact get_app l k l1 i z hi, app_nodup l2 hkl, fun a => ?_, ?_⟩, ⟨?_, ?_, ?_, ?_, ?_, ?_, ?_, ?_⟩⟩
  · rw [p1 0 (by decide), g (by omega) (by omega)]
    exact a1 z hz
  · rw [p1 1 (by decide), g (by omega) (by omega)]
    exact a2 z hz
  · rw [p1 2 (by decide), show nT (putL w k t s x) = nT w from pL_g (by omega) (by omega), show nS (putL w k t s x) a = nS w a from pL_g (by omega) (by omega), g (by omega) (by omega)]
    exact a3 a z ha hz
  · obtain ⟨b1, b2, b3⟩ := hb a ha
    by_cases h : a = k
    · subst h
      rw [p2, p3, p4, p5, p6, p7.1, upd_at, upd_at, upd_at, upd_at, upd_at, hXk, hw a ha, pL_3, pL_4, pL_5]
      refine ⟨jeq ?_, fun _ => ⟨rfl, rfl⟩, fun _ => ⟨by rw [c3], c2, rfl⟩⟩
      unfold slo
      rw [hTk, hSk, if_neg (by omega), if_neg (by omega)]
      omega
    · rw [p2, p3, p4, p5, p6, p7.2 a h, upd_o h, upd_o h, upd_o h, upd_o h, upd_o h, hX a h, hw a ha, g (j := 119 + 6 * a + 3) (by omega) (by omega), g (j := 119 + 6 * a + 4) (by omega) (by omega), g (j := 119 + 6 * a + 5) (by omega) (by omega)]
      unfold slo isL isP at *
      rw [hT a h, hS a h]
      exact ⟨b1, b2, b3⟩
  · rw [List.mem_append, List.mem_singleton, l3 a]
    by_cases h : a = k
    · subst h
      have : isP (putL w a t s x) a = true := bo_t (by rw [hTk]; omega)
      exact ⟨fun _ => ⟨hk, this⟩, fun _ => Or.inr rfl⟩
    · have : isP (putL w k t s x) a = isP w a := by unfold isP; rw [hT a h]
      rw [this]
      exact ⟨fun q => q.resolve_right h, fun q => Or.inl q⟩
  · rw [List.filter_append, hst, ← l4]
    have e1 : [k].filter (fun z => decide (aT (putL w k t s x) z = 3)) = [] := by
      rw [List.filter_cons_of_neg]
      · rfl
      · rw [hTk, bo_f (by omega)]
        decide
    rw [e1, List.append_nil]
    exact List.filter_congr (fun z hz => by rw [hT z (fun q => hkl (by rw [← q]; exact hz))])
  · rw [p9, List.length_append]
    rfl
  · exact (p11 1 (by decide) (by decide)).trans (c1.trans (g (by decide) (by omega)).symm)
  · exact (p11 2 (by decide) (by decide)).trans (c2.trans (g (by decide) (by omega)).symm)
  · rw [p10, c3, pL_c]
  · exact (p11 4 (by decide) (by decide)).trans (c4.trans (g (by decide) (by omega)).symm)
  · exact (p11 5 (by decide) (by decide)).trans (c5.trans (g (by decide) (by omega)).symm)
  · exact (p11 6 (by decide) (by decide)).trans (c6.trans (g (by decide) (by omega)).symm)
  · exact (p11 7 (by decide) (by decide)).trans (c7.trans (g (by decide) (by omega)).symm)
end PUT
theorem last_77 : True := trivial

/-! a new shelf; a shelf is emptied -/
def shW (w : Wd) (t : Nat) (h : Int) : Wd := upd (upd w (47 + 24 * t + (nS w t).toNat) (jI h)) (44 + t) (w (44 + t) + jI 1)
section SHW
variable {w : Wd} {t : Nat} {h : Int}
theorem sh_o {j : Nat} (h1 : j ≠ 47 + 24 * t + (nS w t).toNat) (h2 : j ≠ 44 + t) : shW w t h j = w j := (upd_o h2).trans (upd_o h1)
theorem sh_g {j : Nat} (h1 : j ≠ 47 + 24 * t + (nS w t).toNat) (h2 : j ≠ 44 + t) : gw (shW w t h) j = gw w j := congrArg Int32.toInt (sh_o h1 h2)
theorem sh_nS (hb : 0 ≤ nS w t ∧ nS w t ≤ 24) : nS (shW w t h) t = nS w t + 1 := by
  refine gw_jI (upd_at.trans ?_) (by omega) (by omega)
  rw [show w (44 + t) = jI (nS w t) from gwj _ _, jI_add]
theorem sh_tl (ht : t < 3) (hh : 1 ≤ h ∧ h ≤ 24) : tl (shW w t h) t (nS w t).toNat = h := gw_jI ((upd_o (by omega)).trans upd_at) (by omega) (by omega)
theorem sh_fits (hW : WF w) (ht : (t : Int) < nT w) (hh : 1 ≤ h) (hf : topH w t (nS w t).toNat + h ≤ 24) : nS w t ≤ 23 := by
  have hb := hW.2.1 t ht
  have := topH_b hW ht (nS w t).toNat (by omega)
  omega
theorem sh_WF (hW : WF w) (ht : (t : Int) < nT w) (hh : 1 ≤ h ∧ h ≤ 24) (hf : topH w t (nS w t).toNat + h ≤ 24) : WF (shW w t h) := by
  have hb0 := hW.2.1 t ht
  have hfit := sh_fits hW ht hh.1 hf
  have ht3 : t < 3 := by have := hW.1.2.1; omega
  have g := fun {j : Nat} => @sh_g w t h j
  obtain ⟨⟨a1, a2, a3, a4⟩, hb, hc9, hd, ⟨he, hee⟩, ⟨f1, f2, f3, f4, f5⟩⟩ := id hW
  have hT : ∀ k, aT (shW w t h) k = aT w k := fun k => g (by omega) (by omega)
  have hS : ∀ k, aS (shW w t h) k = aS w k := fun k => g (by omega) (by omega)
  have hX : ∀ k, aX (shW w t h) k = aX w k := fun k => g (by omega) (by omega)
  have hL : ∀ k, aL (shW w t h) k = aL w k := fun k => g (by omega) (by omega)
  have hw : ∀ k, k < 144 → wdt (shW w t h) k = wdt w k := fun k hk => by unfold wdt; rw [g (j := 12 + k / 9) (by omega) (by omega)]
  have hg : ∀ k, k < 144 → hgt (shW w t h) k = hgt w k := fun k hk => by unfold hgt; rw [g (j := 28 + k / 9) (by omega) (by omega)]
  have hnS : ∀ a, a < 3 → a ≠ t → nS (shW w t h) a = nS w a := fun a h1 h2 => g (by omega) (by omega)
  have htl : ∀ a b, a < 3 → b < 24 → (a ≠ t ∨ b ≠ (nS w t).toNat) → tl (shW w t h) a b = tl w a b := fun a b h1 h2 h3 => g (by omega) (by omega)
  have hnT : nT (shW w t h) = nT w := g (by omega) (by omega)
  have htop : ∀ a, a < 3 → ∀ z, z ≤ 24 → (a ≠ t ∨ z ≤ (nS w t).toNat) → topH (shW w t h) a z = topH w a z := fun a h1 z => by
    induction z with
    | zero => intro _ _; rfl
    | succ z ih =>
      intro h2 h3
      show topH (shW w t h) a z + tl (shW w t h) a z = topH w a z + tl w a z
      rw [ih (by omega) (by omega), htl a z h1 (by omega) (by omega)]
  have hst : strt (shW w t h) = strt w := by
    unfold strt
    rw [g (by omega) (by omega)]
    refine List.map_congr_left (fun i hi => ?_)
    have := List.mem_range.mp hi
    rw [g (by omega) (by omega)]
  have hP : ∀ k, isP (shW w t h) k = isP w k := fun k => by unfold isP; rw [hT]
  refine ⟨⟨by rw [hnT]; exact a1, by rw [hnT]; exact a2, fun z hz => by rw [g (by omega) (by omega)]; exact a3 z hz, fun z hz => by rw [g (by omega) (by omega)]; exact a4 z hz⟩, fun a ha => ?_, fun k hk => ?_, fun k k' hk hk' hne hl hta hsa => ?_, ⟨fun k hk hp => ?_, fun k k' hk hk' hp hp' hq => ?_⟩, ⟨by rw [g (by omega) (by omega)]; exact f1, by rw [g (by omega) (by omega)]; exact f2, fun i hi => ?_, by rw [hst]; exact f4, fun k => by rw [hst, hT]; exact f5 k⟩⟩
  · rw [hnT] at ha
    obtain ⟨b1, b2, b3, b4⟩ := hb a ha
    have ha3 : a < 3 := by omega
    by_cases hat : a = t
    · subst hat
      rw [sh_nS ⟨b1, b2⟩]
      refine ⟨by omega, by omega, fun z hz => ?_, ?_⟩
      · by_cases hzs : z = (nS w a).toNat
        · rw [hzs, sh_tl ha3 hh]
          exact hh
        · rw [htl a z ha3 (by omega) (Or.inr hzs)]
          exact b3 z (by omega)
      · rw [show (nS w a + 1).toNat = (nS w a).toNat + 1 by omega]
        show topH (shW w a h) a (nS w a).toNat + tl (shW w a h) a (nS w a).toNat ≤ 24
        rw [htop a ha3 _ (by omega) (Or.inr (Nat.le_refl _)), sh_tl ha3 hh]
        exact hf
    · rw [hnS a ha3 hat]
      exact ⟨b1, b2, fun z hz => by rw [htl a z ha3 (by omega) (Or.inl hat)]; exact b3 z hz, by rw [htop a ha3 _ (by omega) (Or.inl hat)]; exact b4⟩
  · rw [hT, hS, hX, hw k hk, hg k hk, hnT]
    rcases hc9 k hk with c1 | c1 | ⟨c1, c2, c3, c4, c5, c6, c7⟩
    · exact Or.inl c1
    · exact Or.inr (Or.inl c1)
    · have hb9 := hb (aT w k).toNat (by omega)
      refine Or.inr (Or.inr ⟨c1, c2, c3, ?_, c5, c6, ?_⟩)
      · by_cases hat : (aT w k).toNat = t
        · rw [hat] at c4 ⊢
          rw [sh_nS ⟨hb0.1, hb0.2.1⟩]
          omega
        · rw [hnS _ (by omega) hat]
          exact c4
      · rw [htl _ _ (by omega) (by omega)]
        · exact c7
        · by_cases hat : (aT w k).toNat = t
          · rw [hat] at c4
            exact Or.inr (by omega)
          · exact Or.inl hat
  · have hl : isL w k = true := by
      unfold isL at hl ⊢
      rw [hT] at hl
      exact hl
    rw [hT, hT] at hta
    rw [hS, hS] at hsa
    rw [hX, hX, hw k hk, hw k' hk']
    exact hd k k' hk hk' hne hl hta hsa
  · rw [hP] at hp
    rw [hL, g (by omega) (by omega)]
    exact he k hk hp
  · rw [hP] at hp hp'
    rw [hL, hL] at hq
    exact hee k k' hk hk' hp hp' hq
  · rw [g (by omega) (by omega)] at hi
    rw [g (by omega) (by omega)]
    exact f3 i hi
theorem sh_RC {r r' : Nat → Nat → Int32} {c : Nat → Int32} {l : List Nat} (hW : WF w) (ht : (t : Int) < nT w) (hh : 1 ≤ h ∧ h ≤ 24) (hf : topH w t (nS w t).toNat + h ≤ 24) (hR : RC r c w l) (h2 : r' 2 = upd (r 2) (24 * t + (nS w t).toNat) (jI h)) (ho : ∀ q : Nat, q ≠ 2 → r' q = r q) : RC r' c (shW w t h) l := by
  have hb0 := hW.2.1 t ht
  have hfit := sh_fits hW ht hh.1 hf
  have ht3 : t < 3 := by have := hW.1.2.1; omega
  have f2 := hW.2.2.2.2.2.2.1
  have g := fun {j : Nat} => @sh_o w t h j
  obtain ⟨⟨a1, a2, a3⟩, hb, ⟨l1, l2, l3, l4⟩, ⟨c0, c1, c2, c3, c4, c5, c6, c7⟩⟩ := hR
  have hT : ∀ k, aT (shW w t h) k = aT w k := fun k => sh_g (by omega) (by omega)
  have hS : ∀ k, aS (shW w t h) k = aS w k := fun k => sh_g (by omega) (by omega)
  have hX : ∀ k, aX (shW w t h) k = aX w k := fun k => sh_g (by omega) (by omega)
  have hw : ∀ k, k < 144 → wdt (shW w t h) k = wdt w k := fun k hk => by unfold wdt; rw [sh_g (j := 12 + k / 9) (by omega) (by omega)]
  have hP : ∀ k, isP (shW w t h) k = isP w k := fun k => by unfold isP; rw [hT]
  have hL : ∀ k, isL (shW w t h) k = isL w k := fun k => by unfold isL; rw [hT]
  have hst : strt (shW w t h) = strt w := by
    unfold strt
    rw [sh_g (by omega) (by omega)]
    refine List.map_congr_left (fun i hi => ?_)
    have := List.mem_range.mp hi
    rw [sh_g (by omega) (by omega)]
  have hnT : nT (shW w t h) = nT w := sh_g (by omega) (by omega)
  refine ⟨⟨fun z hz => ?_, fun z hz => ?_, fun a z ha hz => ?_⟩, fun a ha => ?_, ⟨fun i z hi => by rw [ho 9 (by decide)]; exact l1 i z hi, l2, fun a => by rw [hP]; exact l3 a, ?_⟩, ⟨c0, c1.trans (g (by omega) (by omega)).symm, c2.trans (g (by omega) (by omega)).symm, c3.trans (g (by omega) (by omega)).symm, c4.trans (g (by omega) (by omega)).symm, c5.trans (g (by omega) (by omega)).symm, c6.trans (g (by omega) (by omega)).symm, c7.trans (g (by omega) (by omega)).symm⟩⟩
  · rw [ho 0 (by decide), g (by omega) (by omega)]
    exact a1 z hz
  · rw [ho 1 (by decide), g (by omega) (by omega)]
    exact a2 z hz
  · rw [h2, hnT]
    by_cases hat : a = t
    · subst hat
      rw [sh_nS ⟨hb0.1, hb0.2.1⟩]
      by_cases hzs : z = (nS w a).toNat
      · subst hzs
        rw [upd_at, if_pos ⟨ht, by omega⟩]
        exact ((upd_o (by omega)).trans upd_at).symm
      · rw [upd_o (by omega), a3 a z ha hz, g (by omega) (by omega)]
        by_cases hz9 : (z : Int) < nS w a
        · rw [if_pos ⟨ht, hz9⟩, if_pos ⟨ht, by omega⟩]
        · rw [if_neg (fun q => hz9 q.2), if_neg (fun q => by have := q.2; omega)]
    · rw [upd_o (by omega), a3 a z ha hz, g (by omega) (by omega), show nS (shW w t h) a = nS w a from sh_g (by omega) (by omega)]
  · rw [ho 3 (by decide), ho 4 (by decide), ho 5 (by decide), ho 6 (by decide), ho 7 (by decide), ho 8 (by decide), hL, hP, hX, hw a ha, g (j := 119 + 6 * a + 3) (by omega) (by omega), g (j := 119 + 6 * a + 4) (by omega) (by omega), g (j := 119 + 6 * a + 5) (by omega) (by omega)]
    have es : slo (shW w t h) a = slo w a := by unfold slo; rw [hT, hS]
    rw [es]
    exact hb a ha
  · rw [hst, ← l4]
    exact List.filter_congr (fun z hz => by rw [hT z])
end SHW
/-- the letters of a shelf, as a set -/
def onB (w : Wd) (t s : Nat) : Nat → Bool := fun z => isO w z t s
theorem onB_P {w : Wd} (hW : WF w) {t s : Nat} (ht : t < 3) : ∀ k, k < 144 → onB w t s k = true → isP w k = true := fun _ hk h => (isO_c hW hk ht h).1
/-- of the shelf's letters: those behind place i of the list -/
def tailB (l : List Nat) (w : Wd) (t s i : Nat) : Nat → Bool := fun z => isO w z t s && decide (z ∈ l.drop i)
theorem n_emptyShelf {σ : ST} {w : Wd} {l : List Nat} {t s : Nat} {Q : ST → Prop} (hR : RK σ w l) (hW : WF w) (ht : t < 3) (hs : s < 24) (h : ∀ σ' : ST, AwayS σ.1 σ'.1 σ.2 σ'.2 l (onB w t s) → Q σ') : wp_X4_emptyShelf σ (jI ((24 * t + s : Nat) : Int)) Q := by
  have hlen := hR.2.2.1.len
  have hnd := hR.2.2.1.2.1
  have hmem := hR.2.2.1.2.2.1
  -- the list while it runs: what is before place i stays, of what is behind the shelf's letters are gone
  have hsplit : ∀ i, l.filter (fun z => !tailB l w t s i z) = l.take i ++ (l.drop i).filter (fun z => !isO w z t s) := fun i => by
    have e := List.take_append_drop i l
    have hnd2 : (l.take i ++ l.drop i).Nodup := by rw [e]; exact hnd
    have hdis := (List.nodup_append.mp hnd2).2.2
    rw [show l.filter (fun z => !tailB l w t s i z) = (l.take i ++ l.drop i).filter (fun z => !tailB l w t s i z) by rw [e], List.filter_append]
    congr 1
    · refine List.filter_eq_self.mpr (fun z hz => ?_)
      unfold tailB
      rw [bo_f (fun q => hdis z hz z q rfl), Bool.and_false]
      rfl
    · refine List.filter_congr (fun z hz => ?_)
      unfold tailB
      rw [bo_t hz, Bool.and_true]
  unfold wp_X4_emptyShelf
  rw [hR.n, jI_sub]
  refine al ?_
  have key : ∀ K : ST → Prop, (∀ σ' : ST, AwayS σ.1 σ'.1 σ.2 σ'.2 l (onB w t s) → K σ') → ∃ nn, wl_X4_emptyShelf_7 K (jI ((24 * t + s : Nat) : Int)) nn σ (jI ((l.length : Int) - 1)) := fun K hK => by
    refine lp_inv (α := ST × Int32) (L := fun n a => wl_X4_emptyShelf_7 K (jI ((24 * t + s : Nat) : Int)) n a.1 a.2) (B := fun LL a => wb_X4_emptyShelf_7 K (fun t y => LL (t, y)) (jI ((24 * t + s : Nat) : Int)) a.1 a.2) (fun n a => rfl) (fun i a => a.2 = jI ((l.length : Int) - 1 - i) ∧ AwayS σ.1 a.1.1 σ.2 a.1.2 l (tailB l w t s (l.length - i))) l.length (fun i a hi ha LL hLL => ?_) (σ, jI ((l.length : Int) - 1)) ⟨jeq (by omega), AwayS.z _ _ _ _ (fun z => ?_) hR.2.2.1.1 hR.n⟩
    · obtain ⟨u, y⟩ := a
      obtain ⟨ha1, ha2⟩ := ha
      dsimp only at ha1 ha2 ⊢
      subst ha1
      unfold wb_X4_emptyShelf_7
      refine qlt (by omega) (by omega) (by decide) (by decide) (fun c => ?_) (fun c => ?_)
      · have e : tailB l w t s (l.length - i) = fun z => onB w t s z && decide (z ∈ l) := by
          funext z
          rw [show l.length - i = 0 by omega]
          rfl
        refine hK u ?_
        rw [e] at ha2
        -- the same letters
        obtain ⟨b1, b2, b3, b4, b5, b6⟩ := ha2
        have e1 : l.filter (fun z => !(onB w t s z && decide (z ∈ l))) = l.filter (fun z => !onB w t s z) := List.filter_congr (fun z hz => by rw [bo_t hz, Bool.and_true])
        have e2 : l.countP (fun z => onB w t s z && decide (z ∈ l)) = l.countP (onB w t s) := List.countP_congr (fun z hz => by rw [bo_t hz, Bool.and_true])
        rw [e1] at b3 b4
        rw [e2] at b5
        refine ⟨b1, fun k hk => ?_, b3, b4, b5, b6⟩
        have eb : (onB w t s k && decide (k ∈ l)) = onB w t s k := by
          cases ho : onB w t s k
          · rfl
          · rw [bo_t ((hmem k).mpr ⟨hk, onB_P hW ht k hk ho⟩), Bool.and_true]
        rw [b2 k hk]
        show (if (onB w t s k && decide (k ∈ l)) = true then jI (-2) else σ.1 3 k) = _
        rw [eb]
      · obtain ⟨j, ej⟩ : ∃ j : Nat, l.length - i = j + 1 := ⟨l.length - i - 1, by omega⟩
        have ej2 : l.length - (i + 1) = j := by omega
        have hjl : j < l.length := by omega
        have hj1 := List.getElem?_eq_getElem hjl
        obtain ⟨z1, z2⟩ := (hmem l[j]).mp (List.mem_of_getElem? hj1)
        rw [ej] at ha2
        have hsp := hsplit (j + 1)
        have htk : (l.filter (fun z => !tailB l w t s (j + 1) z))[j]? = some l[j] := by
          rw [hsp, List.getElem?_append_left (by rw [List.length_take]; omega), List.getElem?_take_of_lt (by omega)]
          exact hj1
        rw [show (l.length : Int) - 1 - (i : Int) = (j : Int) by omega]
        have e9 : zrg u 9 (jI (j : Nat)) = jI (l[j] : Nat) := (cg u 9 j (by show j < 144; omega)).trans (ha2.2.2.1 j _ htk)
        have hnt : tailB l w t s (j + 1) l[j] = false := by
          cases q : tailB l w t s (j + 1) l[j]
          · rfl
          · have hm := List.mem_of_getElem? htk
            rw [List.mem_filter, q] at hm
            cases hm.2
        have e3 : zrg u 3 (jI (l[j] : Nat)) = jI (slo w l[j]) := by
          rw [cg u 3 _ (by show l[j] < 144; exact z1), ha2.2.1 _ z1, hnt, if_neg (by decide)]
          exact (hR.2.1 _ z1).1
        have h5 := slo_c hW z1
        have hdrop : ∀ z, z ∈ l.drop j ↔ (z = l[j] ∨ z ∈ l.drop (j + 1)) := fun z => by
          rw [List.drop_eq_getElem_cons hjl, List.mem_cons]
        refine alE e9 (alE e3 ?_)
        refine qeq (by omega) (by omega) (by omega) (by omega) (fun c2 => ?_) (fun c2 => ?_)
        · have ho := (slo_on hW z1 ht hs).mp c2
          have hll : (l.filter (fun z => !tailB l w t s (j + 1) z)).length ≤ 144 := Nat.le_trans (List.length_filter_le _ _) hlen
          refine n_takeAway (l := l.filter (fun z => !tailB l w t s (j + 1) z)) ha2.2.2.1 (fun k hk => ((hmem k).mp (List.mem_filter.mp hk).1).1) (hnd.filter _) hll ha2.2.2.2.1 (List.mem_of_getElem? htk) (fun σ' hA => ?_)
          refine alE (jI_add _ _) (hLL _ (by omega) ⟨jeq (by omega), ?_⟩)
          rw [ej2]
          have e : tailB l w t s j = fun z => tailB l w t s (j + 1) z || (z == l[j]) := by
            funext z
            unfold tailB
            rw [Bool.eq_iff_iff]
            simp only [Bool.and_eq_true, Bool.or_eq_true, decide_eq_true_eq, beq_iff_eq]
            rw [hdrop z]
            constructor
            · rintro ⟨q1, q2 | q2⟩
              · exact Or.inr q2
              · exact Or.inl ⟨q1, q2⟩
            · rintro (⟨q1, q2⟩ | q2)
              · exact ⟨q1, Or.inr q2⟩
              · exact ⟨by rw [q2]; exact ho, Or.inl q2⟩
          rw [e]
          exact ha2.trans hA
        · have ho := slo_onf hW z1 ht hs c2
          refine alE (jI_add _ _) (hLL _ (by omega) ⟨jeq (by omega), ?_⟩)
          rw [ej2]
          have e : tailB l w t s j = tailB l w t s (j + 1) := by
            funext z
            unfold tailB
            rw [Bool.eq_iff_iff]
            simp only [Bool.and_eq_true, decide_eq_true_eq]
            rw [hdrop z]
            constructor
            · rintro ⟨q1, q2 | q2⟩
              · rw [q2, ho] at q1
                cases q1
              · exact ⟨q1, q2⟩
            · rintro ⟨q1, q2⟩
              exact ⟨q1, Or.inr q2⟩
          rw [e]
          exact ha2
    · unfold tailB
      rw [Nat.sub_zero, List.drop_length, bo_f List.not_mem_nil, Bool.and_false]
  exact key _ h
def headB (w : Wd) (t s i : Nat) : Nat → Bool := fun z => isO w z t s && decide (z < i)
theorem m_empties {μ : ST} {k t s : Nat} {K : ST → Prop} (hW : WF (μ.1 0)) (ht : t < 3) (hs : s < 24) (h2 : μ.2 2 = jI 3) (h3 : μ.2 3 = jI (t : Nat)) (h4 : μ.2 4 = jI (s : Nat)) (h : ∀ μ' : ST, (∀ q : Nat, q ≠ 0 → μ'.1 q = μ.1 q) → μ'.2 = μ.2 → GoneS (μ.1 0) (μ'.1 0) (onB (μ.1 0) t s) → K μ') : ∃ nn, wl_X7_lays_116 K (jI (k : Nat)) nn μ (jI 0) := by
  refine lp_inv (α := ST × Int32) (L := fun n a => wl_X7_lays_116 K (jI (k : Nat)) n a.1 a.2) (B := fun LL a => wb_X7_lays_116 K (fun t y => LL (t, y)) (jI (k : Nat)) a.1 a.2) (fun n a => rfl) (fun i a => a.2 = jI (i : Nat) ∧ (∀ q : Nat, q ≠ 0 → a.1.1 q = μ.1 q) ∧ a.1.2 = μ.2 ∧ GoneS (μ.1 0) (a.1.1 0) (headB (μ.1 0) t s i)) 144 (fun i a hi ha LL hLL => ?_) (μ, jI 0) ⟨rfl, fun _ _ => rfl, rfl, GoneS.z _ _ (fun z => ?_) hW.2.2.2.2.2⟩
  · obtain ⟨u, y⟩ := a
    obtain ⟨ha1, ha2, ha3, ha4⟩ := ha
    dsimp only at ha1 ha2 ha3 ha4 ⊢
    subst ha1
    unfold wb_X7_lays_116
    by_cases hil : i < 144
    · refine rnot hil ?_
      rw [ha3, h2, h3, h4]
      refine qt rfl (m_isOn hil (by omega) (by omega) (by omega) (by omega) ?_)
      have hni : headB (μ.1 0) t s i i = false := by
        unfold headB
        rw [bo_f (Nat.lt_irrefl i), Bool.and_false]
      have eO : isO (u.1 0) i t s = isO (μ.1 0) i t s := by
        unfold isO
        rw [ha4.aTn hni, ha4.qaS]
      rw [eO]
      refine qb (fun p => ?_) (fun p => ?_)
      · refine alE (jI_add _ _) (hLL _ hil ⟨rfl, ha2, ha3, ?_⟩)
        have e : headB (μ.1 0) t s (i + 1) = headB (μ.1 0) t s i := by
          funext z
          unfold headB
          by_cases hz : z = i
          · subst hz
            rw [p, Bool.false_and, Bool.false_and]
          · rw [show decide (z < i + 1) = decide (z < i) from decide_eq_decide.mpr (by omega)]
        dsimp only
        rw [e]
        exact ha4
      · refine m_goes (ha4.WF hW).2.2.2.2.2 hil (fun μ' g1 g2 g3 => ?_)
        refine alE (jI_add _ _) (hLL _ hil ⟨rfl, fun q hq => (g1 q hq).trans (ha2 q hq), g2.trans ha3, ?_⟩)
        have e : headB (μ.1 0) t s (i + 1) = fun z => headB (μ.1 0) t s i z || (z == i) := by
          funext z
          unfold headB
          by_cases hz : z = i
          · subst hz
            rw [p, beq_self_eq_true, Bool.or_true, bo_t (by omega)]
            rfl
          · rw [show decide (z < i + 1) = decide (z < i) from decide_eq_decide.mpr (by omega), beq_eq_false_iff_ne.mpr hz, Bool.or_false]
        dsimp only
        rw [e]
        refine ha4.trans g3 (fun z hz => beq_eq_false_iff_ne.mpr (fun q => ?_))
        subst q
        rw [hni] at hz
        cases hz
    · have e : i = 144 := by omega
      subst e
      refine rend (h u ha2 ha3 ?_)
      -- the same letters
      obtain ⟨b1, b2, b3, b4, b5, b6, b7⟩ := ha4
      have hcg : ∀ z, z < 144 → headB (μ.1 0) t s 144 z = onB (μ.1 0) t s z := fun z hz => by
        unfold headB onB
        rw [bo_t hz, Bool.and_true]
      refine ⟨fun j h5 hj hn => b1 j h5 hj (fun z hz hs => hn z hz (by rw [← hcg z hz]; exact hs)), fun z hz hs => b2 z hz (by rw [hcg z hz]; exact hs), ?_, ?_, b5, b6, b7⟩
      · rw [b3]
        congr 3
        exact List.countP_congr (fun z hz => by rw [hcg z (List.mem_range.mp hz)])
      · rw [b4]
        refine List.filter_congr (fun z hz => ?_)
        rw [hcg z ((hW.2.2.2.2.2.2.2.2.2 z).mp hz).1]
  · unfold headB
    rw [bo_f (Nat.not_lt_zero z), Bool.and_false]
theorem last_79 : True := trivial

/-! shelves are closed: what is left -/
def kp (w : Wd) (t s : Nat) : Bool := (List.range 144).any (fun k => isO w k t s)
def rk (w : Wd) (t s : Nat) : Nat := (List.range s).countP (kp w t)
section RKS
variable {w : Wd} {t : Nat}
theorem rk_s (s : Nat) : rk w t (s + 1) = rk w t s + if kp w t s = true then 1 else 0 := cnt_s _ _
theorem rk_t {s : Nat} (h : kp w t s = true) : rk w t (s + 1) = rk w t s + 1 := by rw [rk_s, if_pos h]
theorem rk_f {s : Nat} (h : kp w t s = false) : rk w t (s + 1) = rk w t s := by rw [rk_s, if_neg (by rw [h]; decide), Nat.add_zero]
theorem rk_mono {a b : Nat} (h : a ≤ b) : rk w t a ≤ rk w t b ∧ rk w t b - rk w t a ≤ b - a := by
  induction b with
  | zero => rw [show a = 0 by omega]; omega
  | succ b ih =>
    by_cases hab : a = b + 1
    · subst hab
      omega
    · have := ih (by omega)
      rw [rk_s]
      split <;> omega
theorem rk_le (s : Nat) : rk w t s ≤ s := by
  have := (rk_mono (w := w) (t := t) (Nat.zero_le s)).2
  have e : rk w t 0 = 0 := rfl
  omega
theorem rk_lt {a b : Nat} (hk : kp w t a = true) (h : a < b) : rk w t a < rk w t b := by
  have h1 := (rk_mono (w := w) (t := t) (show a + 1 ≤ b from h)).1
  rw [rk_t hk] at h1
  omega
theorem rk_inj {a b : Nat} (ha : kp w t a = true) (hb : kp w t b = true) (h : rk w t a = rk w t b) : a = b := by
  by_cases h1 : a < b
  · have := rk_lt ha h1
    omega
  · by_cases h2 : b < a
    · have := rk_lt hb h2
      omega
    · omega
theorem rk_surj (n q : Nat) (h : q < rk w t n) : ∃ s, s < n ∧ kp w t s = true ∧ rk w t s = q := by
  induction n with
  | zero => exact absurd h (Nat.not_lt_zero q)
  | succ n ih =>
    by_cases hq : q < rk w t n
    · obtain ⟨s, h1, h2, h3⟩ := ih hq
      exact ⟨s, by omega, h2, h3⟩
    · cases hk : kp w t n
      · rw [rk_f hk] at h
        exact absurd h hq
      · rw [rk_t hk] at h
        exact ⟨n, by omega, hk, by omega⟩
end RKS
theorem kp_of {w : Wd} {k t s : Nat} (hk : k < 144) (h : isO w k t s = true) : kp w t s = true := by
  unfold kp
  rw [List.any_eq_true]
  exact ⟨k, List.mem_range.mpr hk, h⟩
theorem kp_laid {w : Wd} (hW : WF w) {k : Nat} (hk : k < 144) (hl : isL w k = true) : kp w (aT w k).toNat (aS w k).toNat = true := by
  obtain ⟨a1, a2, a3, a4, a5, a6, -⟩ := laid_c hW hk hl
  exact kp_of hk (bo_t (by omega))
def exB (w : Wd) (i : Nat) : Bool := decide (exS w i) && !kp w (i / 24) (i % 24)
theorem exB_i {w : Wd} {t s : Nat} (hs : s < 24) : exB w (24 * t + s) = (decide ((t : Int) < nT w ∧ (s : Int) < nS w t) && !kp w t s) := by
  show (decide (((((24 * t + s) / 24 : Nat) : Int) < nT w ∧ (((24 * t + s) % 24 : Nat) : Int) < nS w ((24 * t + s) / 24))) && !kp w ((24 * t + s) / 24) ((24 * t + s) % 24)) = _
  rw [show (24 * t + s) / 24 = t by omega, show (24 * t + s) % 24 = s by omega]
/-- what is left when the empty shelves are closed -/
def ClW (w w' : Wd) : Prop := (∀ j : Nat, (j < 44 ∨ (119 ≤ j ∧ (j - 119) % 6 ≠ 1)) → w' j = w j) ∧ (∀ t : Nat, (t : Int) < nT w → nS w' t = rk w t (nS w t).toNat) ∧ (∀ t s : Nat, (t : Int) < nT w → (s : Int) < nS w t → kp w t s = true → tl w' t (rk w t s) = tl w t s) ∧ ∀ k : Nat, k < 144 → aS w' k = if isL w k = true then ((rk w (aT w k).toNat (aS w k).toNat : Nat) : Int) else aS w k
section CLW
variable {w w' : Wd}
theorem ClW.g (h : ClW w w') {j : Nat} (hj : j < 44 ∨ (119 ≤ j ∧ (j - 119) % 6 ≠ 1)) : gw w' j = gw w j := congrArg Int32.toInt (h.1 j hj)
theorem ClW.qT (h : ClW w w') (k : Nat) : aT w' k = aT w k := h.g (by omega)
theorem ClW.qX (h : ClW w w') (k : Nat) : aX w' k = aX w k := h.g (by omega)
theorem ClW.qL9 (h : ClW w w') (k : Nat) : aL w' k = aL w k := h.g (by omega)
theorem ClW.qw (h : ClW w w') {k : Nat} (hk : k < 144) : wdt w' k = wdt w k := by unfold wdt; rw [h.g (j := 12 + k / 9) (by omega)]
theorem ClW.qh (h : ClW w w') {k : Nat} (hk : k < 144) : hgt w' k = hgt w k := by unfold hgt; rw [h.g (j := 28 + k / 9) (by omega)]
theorem ClW.qnT (h : ClW w w') : nT w' = nT w := h.g (by decide)
theorem ClW.qP (h : ClW w w') (k : Nat) : isP w' k = isP w k := by unfold isP; rw [h.qT]
theorem ClW.qL (h : ClW w w') (k : Nat) : isL w' k = isL w k := by unfold isL; rw [h.qT]
theorem ClW.qst (h : ClW w w') (h4 : gw w 7 ≤ 4) : strt w' = strt w := by
  unfold strt
  rw [h.g (by decide)]
  refine List.map_congr_left (fun i hi => ?_)
  have := List.mem_range.mp hi
  rw [h.g (by omega)]
theorem ClW.top (h : ClW w w') (hW : WF w) {t : Nat} (ht : (t : Int) < nT w) : ∀ n : Nat, (n : Int) ≤ nS w t → topH w' t (rk w t n) ≤ topH w t n := by
  intro n
  induction n with
  | zero => intro _; exact Int.le_refl _
  | succ n ih =>
    intro hn
    have h1 := ih (by omega)
    have h2 := (hsv_in hW ht (s := n) (by omega)).2
    have e : topH w t (n + 1) = topH w t n + tl w t n := rfl
    cases hk : kp w t n
    · rw [rk_f hk]
      omega
    · rw [rk_t hk]
      show topH w' t (rk w t n) + tl w' t (rk w t n) ≤ _
      rw [h.2.2.1 t n ht (by omega) hk]
      omega
theorem ClW.WF (h : ClW w w') (hW : WF w) : WF w' := by
  obtain ⟨⟨a1, a2, a3, a4⟩, hb, hc, hd, ⟨he, hee⟩, ⟨f1, f2, f3, f4, f5⟩⟩ := id hW
  have hlS : ∀ k, k < 144 → isL w k = true → aS w' k = ((rk w (aT w k).toNat (aS w k).toNat : Nat) : Int) := fun k hk hl => by rw [h.2.2.2 k hk, if_pos hl]
  refine ⟨⟨by rw [h.qnT]; exact a1, by rw [h.qnT]; exact a2, fun s hs => by rw [h.g (by omega)]; exact a3 s hs, fun s hs => by rw [h.g (by omega)]; exact a4 s hs⟩, fun t ht => ?_, fun k hk => ?_, fun k k' hk hk' hne hl hta hsa => ?_, ⟨fun k hk hp => ?_, fun k k' hk hk' hp hp' hq => ?_⟩, ⟨by rw [h.g (by decide)]; exact f1, by rw [h.g (by decide)]; exact f2, fun i hi => ?_, by rw [h.qst f2]; exact f4, fun k => by rw [h.qst f2, h.qT]; exact f5 k⟩⟩
  · rw [h.qnT] at ht
    obtain ⟨b1, b2, b3, b4⟩ := hb t ht
    have hr := rk_le (w := w) (t := t) (nS w t).toNat
    rw [h.2.1 t ht]
    refine ⟨by omega, by omega, fun s hs => ?_, ?_⟩
    · obtain ⟨s0, h1, h2, h3⟩ := rk_surj (w := w) (t := t) (nS w t).toNat s (by omega)
      rw [← h3, h.2.2.1 t s0 ht (by omega) h2]
      exact b3 s0 (by omega)
    · have := h.top hW ht (nS w t).toNat (by omega)
      rw [Int.toNat_natCast]
      omega
  · rw [h.qT, h.qX, h.qw hk, h.qh hk, h.qnT]
    rcases hc k hk with c1 | c1 | ⟨c1, c2, c3, c4, c5, c6, c7⟩
    · exact Or.inl c1
    · exact Or.inr (Or.inl c1)
    · have hl : isL w k = true := bo_t (by omega)
      have hkp := kp_laid hW hk hl
      have hlt := rk_lt hkp (b := (nS w (aT w k).toNat).toNat) (by omega)
      rw [hlS k hk hl, h.2.1 (aT w k).toNat (by omega), Int.toNat_natCast, h.2.2.1 (aT w k).toNat (aS w k).toNat (by omega) (by omega) hkp]
      exact Or.inr (Or.inr ⟨c1, c2, by omega, by omega, c5, c6, c7⟩)
  · rw [h.qL] at hl
    rw [h.qT, h.qT] at hta
    have hl' : isL w k' = true := by
      have := isL_t hl
      exact bo_t (by omega)
    rw [hlS k hk hl, hlS k' hk' hl', hta] at hsa
    obtain ⟨q1, q2, q3, q4, q5, q6, -⟩ := laid_c hW hk hl
    obtain ⟨r1, r2, r3, r4, r5, r6, -⟩ := laid_c hW hk' hl'
    have hk1 := kp_laid hW hk hl
    have hk2 := kp_laid hW hk' hl'
    rw [hta] at hk2
    have := rk_inj hk2 hk1 (by omega)
    rw [h.qX, h.qX, h.qw hk, h.qw hk']
    exact hd k k' hk hk' hne hl hta (by omega)
  · rw [h.qP] at hp
    rw [h.qL9, h.g (by decide)]
    exact he k hk hp
  · rw [h.qP] at hp hp'
    rw [h.qL9, h.qL9] at hq
    exact hee k k' hk hk' hp hp' hq
  · rw [h.g (by decide)] at hi
    rw [h.g (by omega)]
    exact f3 i hi
/-- what the class has of it -/
def ClC (w : Wd) (r r' : Nat → Nat → Int32) : Prop := (∀ q : Nat, q ≠ 2 → q ≠ 3 → r' q = r q) ∧ (∀ t s : Nat, t < 3 → s < 24 → (t : Int) < nT w → (s : Int) < nS w t → kp w t s = true → r' 2 (24 * t + rk w t s) = jI (tl w t s)) ∧ (∀ t q : Nat, t < 3 → q < 24 → (¬ (t : Int) < nT w ∨ rk w t (nS w t).toNat ≤ q) → r' 2 (24 * t + q) = jI 0) ∧ ∀ k : Nat, k < 144 → r' 3 k = jI (if isL w k = true then 24 * aT w k + ((rk w (aT w k).toNat (aS w k).toNat : Nat) : Int) else slo w k)
theorem ClW_RC {r r' : Nat → Nat → Int32} {c c' : Nat → Int32} {l : List Nat} (h : ClW w w') (hW : WF w) (hR : RC r c w l) (hC : ClC w r r') (hcc : c' = c) : RC r' c' w' l := by
  subst hcc
  have f2 := hW.2.2.2.2.2.2.1
  obtain ⟨p1, p2, p3, p4⟩ := hC
  obtain ⟨⟨a1, a2, a3⟩, hb, ⟨l1, l2, l3, l4⟩, ⟨c0, c1, c2, c3, c4, c5, c6, c7⟩⟩ := hR
  refine ⟨⟨fun z hz => ?_, fun z hz => ?_, fun t s ht hs => ?_⟩, fun k hk => ?_, ⟨fun i z hi => by rw [p1 9 (by decide) (by decide)]; exact l1 i z hi, l2, fun k => by rw [h.qP]; exact l3 k, ?_⟩, ⟨c0, c1.trans (h.1 0 (by decide)).symm, c2.trans (h.1 1 (by decide)).symm, c3.trans (h.1 2 (by decide)).symm, c4.trans (h.1 3 (by decide)).symm, c5.trans (h.1 4 (by decide)).symm, c6.trans (h.1 5 (by decide)).symm, c7.trans (h.1 6 (by decide)).symm⟩⟩
  · rw [p1 0 (by decide) (by decide), h.1 _ (by omega)]
    exact a1 z hz
  · rw [p1 1 (by decide) (by decide), h.1 _ (by omega)]
    exact a2 z hz
  · rw [h.qnT]
    by_cases ht9 : (t : Int) < nT w
    · rw [h.2.1 t ht9]
      by_cases hs9 : (s : Int) < ((rk w t (nS w t).toNat : Nat) : Int)
      · rw [if_pos ⟨ht9, hs9⟩]
        have hb9 := hW.2.1 t ht9
        obtain ⟨s0, h1, h2, h3⟩ := rk_surj (w := w) (t := t) (nS w t).toNat s (by omega)
        rw [← h3, p2 t s0 ht (by omega) ht9 (by omega) h2, ← h.2.2.1 t s0 ht9 (by omega) h2]
        exact (gwj w' _).symm
      · rw [if_neg (fun q => hs9 q.2)]
        exact p3 t s ht hs (Or.inr (by omega))
    · rw [if_neg (fun q => ht9 q.1)]
      exact p3 t s ht hs (Or.inl ht9)
  · obtain ⟨b1, b2, b3⟩ := hb k hk
    rw [p4 k hk, p1 4 (by decide) (by decide), p1 5 (by decide) (by decide), p1 6 (by decide) (by decide), p1 7 (by decide) (by decide), p1 8 (by decide) (by decide), h.qL, h.qP, h.qX, h.qw hk, h.1 (119 + 6 * k + 3) (by omega), h.1 (119 + 6 * k + 4) (by omega), h.1 (119 + 6 * k + 5) (by omega)]
    refine ⟨jeq ?_, b2, b3⟩
    unfold slo
    rw [h.qT, h.2.2.2 k hk]
    cases hl : isL w k
    · have := isL_f hl
      rcases slo_c hW hk with ⟨q1, _⟩ | ⟨q1, _⟩ | ⟨q1, q2, _⟩
      · rw [if_neg (by decide), if_pos q1, if_pos q1]
      · rw [if_neg (by decide), if_neg (show ¬ aT w k = -1 by omega), if_pos q1, if_neg (show ¬ aT w k = -1 by omega), if_pos q1]
      · omega
    · have := isL_t hl
      rw [if_pos rfl, if_pos rfl, if_neg (by omega), if_neg (by omega)]
  · rw [h.qst f2, ← l4]
    exact List.filter_congr (fun z hz => by rw [h.qT z])
end CLW
theorem last_85 : True := trivial

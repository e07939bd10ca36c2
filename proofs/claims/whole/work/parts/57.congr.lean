/-! all this reads the first 983 numbers alone -/
def eqW (w w' : Wd) : Prop := ∀ j : Nat, j < 983 → w' j = w j
section CON
variable {w w' : Wd}
theorem eqW.g (h : eqW w w') {j : Nat} (hj : j < 983) : gw w' j = gw w j := by unfold gw; rw [h j hj]
theorem eqW.qaT (h : eqW w w') {k : Nat} (hk : k < 144) : aT w' k = aT w k := h.g (by omega)
theorem eqW.qaS (h : eqW w w') {k : Nat} (hk : k < 144) : aS w' k = aS w k := h.g (by omega)
theorem eqW.qaX (h : eqW w w') {k : Nat} (hk : k < 144) : aX w' k = aX w k := h.g (by omega)
theorem eqW.qaL (h : eqW w w') {k : Nat} (hk : k < 144) : aL w' k = aL w k := h.g (by omega)
theorem eqW.qwdt (h : eqW w w') {k : Nat} (hk : k < 144) : wdt w' k = wdt w k := by
  show gw w' _ * _ + _ = gw w _ * _ + _
  rw [h.g (by omega)]
theorem eqW.qhgt (h : eqW w w') {k : Nat} (hk : k < 144) : hgt w' k = hgt w k := by
  show gw w' _ * _ + _ = gw w _ * _ + _
  rw [h.g (by omega)]
theorem eqW.qnT (h : eqW w w') : nT w' = nT w := h.g (by decide)
theorem eqW.qnS (h : eqW w w') {t : Nat} (ht : t < 3) : nS w' t = nS w t := h.g (by omega)
theorem eqW.qtl (h : eqW w w') {t s : Nat} (ht : t < 3) (hs : s < 24) : tl w' t s = tl w t s := h.g (by omega)
theorem eqW.qtopH (h : eqW w w') {t : Nat} (ht : t < 3) : ∀ s : Nat, s ≤ 24 → topH w' t s = topH w t s := by
  intro s
  induction s with
  | zero => intro _; rfl
  | succ s ih =>
    intro hs
    show topH w' t s + tl w' t s = topH w t s + tl w t s
    rw [ih (by omega), h.qtl ht (by omega)]
theorem eqW.qisP (h : eqW w w') {k : Nat} (hk : k < 144) : isP w' k = isP w k := by
  show decide _ = decide _
  rw [h.qaT hk]
theorem eqW.qisL (h : eqW w w') {k : Nat} (hk : k < 144) : isL w' k = isL w k := by
  show decide _ = decide _
  rw [h.qaT hk]
theorem eqW.qstrt (h : eqW w w') (h4 : gw w 7 ≤ 4) : strt w' = strt w := by
  show (List.range (gw w' 7).toNat).map _ = (List.range (gw w 7).toNat).map _
  rw [h.g (by decide)]
  refine List.map_congr_left (fun i hi => ?_)
  have := List.mem_range.mp hi
  rw [h.g (by omega)]
theorem eqW.qslo (h : eqW w w') {k : Nat} (hk : k < 144) : slo w' k = slo w k := by
  show (if _ then _ else _) = (if _ then _ else _)
  rw [h.qaT hk, h.qaS hk]
theorem WF.congr (h : eqW w w') (hW : WF w) : WF w' := by
  obtain ⟨⟨a1, a2, a3, a4⟩, hb, hc, hd, ⟨he, hee⟩, ⟨f1, f2, f3, f4, f5⟩⟩ := hW
  refine ⟨⟨by rw [h.qnT]; exact a1, by rw [h.qnT]; exact a2, fun s hs => by rw [h.g (by omega)]; exact a3 s hs, fun s hs => by rw [h.g (by omega)]; exact a4 s hs⟩, fun t ht => ?_, fun k hk => ?_, fun k k' hk hk' hn hl => ?_, ⟨fun k hk hp => ?_, fun k k' hk hk' hp hp' hq => ?_⟩, ⟨by rw [h.g (by decide)]; exact f1, by rw [h.g (by decide)]; exact f2, fun i hi => ?_, by rw [h.qstrt f2]; exact f4, fun k => ?_⟩⟩
  · rw [h.qnT] at ht
    obtain ⟨b1, b2, b3, b4⟩ := hb t ht
    have ht3 : t < 3 := by omega
    rw [h.qnS ht3]
    refine ⟨b1, b2, fun s hs => ?_, ?_⟩
    · rw [h.qtl ht3 (by omega)]
      exact b3 s hs
    · rw [h.qtopH ht3 _ (by omega)]
      exact b4
  · rw [h.qaT hk, h.qaS hk, h.qaX hk, h.qwdt hk, h.qhgt hk, h.qnT]
    rcases hc k hk with c1 | c1 | ⟨c1, c2, c3, c4, c5, c6, c7⟩
    · exact Or.inl c1
    · exact Or.inr (Or.inl c1)
    · have hb9 := hb (aT w k).toNat (by omega)
      have e1 : nS w' (aT w k).toNat = nS w (aT w k).toNat := h.qnS (by omega)
      have e2 : tl w' (aT w k).toNat (aS w k).toNat = tl w (aT w k).toNat (aS w k).toNat := h.qtl (by omega) (by omega)
      rw [e1, e2]
      exact Or.inr (Or.inr ⟨c1, c2, c3, c4, c5, c6, c7⟩)
  · rw [h.qisL hk] at hl
    rw [h.qaT hk, h.qaT hk', h.qaS hk, h.qaS hk', h.qaX hk, h.qaX hk', h.qwdt hk, h.qwdt hk']
    exact hd k k' hk hk' hn hl
  · rw [h.qisP hk] at hp
    rw [h.qaL hk, h.g (by decide)]
    exact he k hk hp
  · rw [h.qisP hk] at hp
    rw [h.qisP hk'] at hp'
    rw [h.qaL hk, h.qaL hk'] at hq
    exact hee k k' hk hk' hp hp' hq
  · rw [h.g (by decide)] at hi
    rw [h.g (by omega)]
    exact f3 i hi
  · rw [h.qstrt f2, f5 k]
    constructor
    · intro ⟨q1, q2⟩
      exact ⟨q1, by rw [h.qaT q1]; exact q2⟩
    · intro ⟨q1, q2⟩
      rw [h.qaT q1] at q2
      exact ⟨q1, q2⟩
theorem RC.congrW {r : Nat → Nat → Int32} {c : Nat → Int32} {l : List Nat} (h : eqW w w') (hW : WF w) (hR : RC r c w l) : RC r c w' l := by
  obtain ⟨⟨a1, a2, a3⟩, hb, ⟨l1, l2, l3, l4⟩, ⟨c0, c1, c2, c3, c4, c5, c6, c7⟩⟩ := hR
  have hk9 : ∀ k ∈ l, k < 144 := fun k hk => ((l3 k).mp hk).1
  refine ⟨⟨fun s hs => by rw [h _ (by omega)]; exact a1 s hs, fun s hs => by rw [h _ (by omega)]; exact a2 s hs, fun t s ht hs => ?_⟩, fun k hk => ?_, ⟨l1, l2, fun k => ?_, ?_⟩, ⟨c0, by rw [h _ (by decide)]; exact c1, by rw [h _ (by decide)]; exact c2, by rw [h _ (by decide)]; exact c3, by rw [h _ (by decide)]; exact c4, by rw [h _ (by decide)]; exact c5, by rw [h _ (by decide)]; exact c6, by rw [h _ (by decide)]; exact c7⟩⟩
  · rw [h.qnT, h.qnS ht, h _ (by omega)]
    exact a3 t s ht hs
  · rw [h.qslo hk, h.qisL hk, h.qisP hk, h.qaX hk, h.qwdt hk, h (119 + 6 * k + 3) (by omega), h (119 + 6 * k + 4) (by omega), h (119 + 6 * k + 5) (by omega)]
    exact hb k hk
  · rw [l3 k]
    constructor
    · intro ⟨q1, q2⟩
      exact ⟨q1, by rw [h.qisP q1]; exact q2⟩
    · intro ⟨q1, q2⟩
      rw [h.qisP q1] at q2
      exact ⟨q1, q2⟩
  · rw [h.qstrt hW.2.2.2.2.2.2.1, ← l4]
    refine List.filter_congr (fun k hk => ?_)
    rw [h.qaT (hk9 k hk)]
end CON
theorem last_57 : True := trivial

/-! cut -/
def cutS (w : Wd) (s i : Nat) : Nat → Bool := fun z => decide (9 * s ≤ z ∧ z < 9 * s + i) && isP w z
def cutN (w : Wd) (s i : Nat) : Nat := (List.range i).countP (fun j => isP w (9 * s + j))
theorem cutS_0 (w : Wd) (s : Nat) : ∀ z, cutS w s 0 z = false := fun z => by
  unfold cutS
  rw [bo_f (by omega)]
  rfl
theorem cutS_t {w : Wd} {s i : Nat} (h : isP w (9 * s + i) = true) : (fun z => cutS w s i z || (z == 9 * s + i)) = cutS w s (i + 1) := by
  funext z
  unfold cutS
  by_cases hz : z = 9 * s + i
  · subst hz
    rw [h, beq_self_eq_true, Bool.or_true, bo_t (by omega)]
    rfl
  · rw [beq_eq_false_iff_ne.mpr hz, Bool.or_false]
    by_cases h2 : 9 * s ≤ z ∧ z < 9 * s + i
    · rw [bo_t h2, bo_t (show 9 * s ≤ z ∧ z < 9 * s + (i + 1) by omega)]
    · rw [bo_f h2, bo_f (show ¬ (9 * s ≤ z ∧ z < 9 * s + (i + 1)) by omega)]
theorem cutS_f {w : Wd} {s i : Nat} (h : isP w (9 * s + i) = false) : cutS w s (i + 1) = cutS w s i := by
  funext z
  unfold cutS
  by_cases hz : z = 9 * s + i
  · subst hz
    rw [h, Bool.and_false, Bool.and_false]
  · by_cases h2 : 9 * s ≤ z ∧ z < 9 * s + i
    · rw [bo_t h2, bo_t (show 9 * s ≤ z ∧ z < 9 * s + (i + 1) by omega)]
    · rw [bo_f h2, bo_f (show ¬ (9 * s ≤ z ∧ z < 9 * s + (i + 1)) by omega)]
theorem cutS_not (w : Wd) (s i : Nat) : cutS w s i (9 * s + i) = false := by
  unfold cutS
  rw [bo_f (by omega)]
  rfl
theorem cutS_P (w : Wd) (s i : Nat) : ∀ k, k < 144 → cutS w s i k = true → isP w k = true := fun k _ h => by
  unfold cutS at h
  rw [Bool.and_eq_true] at h
  exact h.2
theorem cutN_s (w : Wd) (s i : Nat) : cutN w s (i + 1) = cutN w s i + if isP w (9 * s + i) = true then 1 else 0 := by
  unfold cutN
  rw [List.range_succ, List.countP_append, List.countP_singleton]
theorem cutN_le (w : Wd) (s i : Nat) : cutN w s i ≤ i := Nat.le_trans List.countP_le_length (by rw [List.length_range]; exact Nat.le_refl i)
theorem n_isThereS {σ : ST} {w : Wd} {k : Nat} {Q : Int32 → ST → Prop} (h3 : σ.1 3 k = jI (slo w k)) (hW : WF w) (hk : k < 144) (h : Q (jI (bI (isP w k))) σ) : wp_X4_isThere σ (jI k) Q := by
  unfold wp_X4_isThere
  refine alE ((cg σ 3 k hk).trans h3) ?_
  rcases slo_c hW hk with ⟨h1, h2⟩ | ⟨h1, h2⟩ | ⟨h1, h2, h3, h4, h5⟩
  · rw [show isP w k = false from bo_f (fun q => q h1)] at h
    exact qt (jeq h2) h
  · rw [show isP w k = true from bo_t (by omega)] at h
    exact qf (jne (by omega)) h
  · rw [show isP w k = true from bo_t (by omega)] at h
    exact qf (jne (by omega)) h
theorem n_cutLoop {σ : ST} {w : Wd} {l : List Nat} {s : Nat} {K : ST → Int32 → Prop} (hW : WF w) (hb : ∀ k, k < 144 → σ.1 3 k = jI (slo w k)) (hl : RCl σ.1 w l) (h0 : σ.2 0 = jI (l.length : Nat)) (hs : s < 16) (h : ∀ σ' : ST, AwayS σ.1 σ'.1 σ.2 σ'.2 l (cutS w s 9) → K σ' (jI (cutN w s 9 : Nat))) : ∃ nn, wl_X4_cutSign_57 K (jI ((9 * s : Nat) : Int)) nn σ (jI 0) (jI ((9 * s : Nat) : Int)) := by
  have hlen := hl.len
  refine lp_inv (α := ST × Int32 × Int32) (L := fun n a => wl_X4_cutSign_57 K (jI ((9 * s : Nat) : Int)) n a.1 a.2.1 a.2.2) (B := fun LL a => wb_X4_cutSign_57 K (fun t y z => LL (t, y, z)) (jI ((9 * s : Nat) : Int)) a.1 a.2.1 a.2.2) (fun n a => rfl) (fun i a => a.2.1 = jI (cutN w s i : Nat) ∧ a.2.2 = jI ((9 * s + i : Nat) : Int) ∧ AwayS σ.1 a.1.1 σ.2 a.1.2 l (cutS w s i)) 9 (fun i a hi ha LL hLL => ?_) (σ, jI 0, jI ((9 * s : Nat) : Int)) ⟨jeq rfl, jeq (by omega), AwayS.z _ _ _ _ (cutS_0 w s) hl.1 h0⟩
  obtain ⟨t, y, x⟩ := a
  obtain ⟨ha1, ha2, ha3⟩ := ha
  dsimp only at ha1 ha2 ha3 ⊢
  subst ha1 ha2
  unfold wb_X4_cutSign_57
  rw [jI_add]
  refine qle (by omega) (by omega) (by omega) (by omega) (fun c => ?_) (fun c => ?_)
  · have e : i = 9 := by omega
    subst e
    exact h t ha3
  · have hk : 9 * s + i < 144 := by omega
    have e3 : t.1 3 (9 * s + i) = jI (slo w (9 * s + i)) := by
      rw [ha3.2.1 _ hk, cutS_not, if_neg (by decide)]
      exact hb _ hk
    refine n_isThereS e3 hW hk (qb (fun p => ?_) (fun p => ?_))
    · refine alE (jI_add _ _) (hLL _ (by omega) ⟨?_, rfl, ?_⟩)
      · rw [cutN_s, p]
        rfl
      · rw [cutS_f p]
        exact ha3
    · have hll : (l.filter (fun z => !cutS w s i z)).length ≤ 144 := Nat.le_trans (List.length_filter_le _ _) hlen
      refine n_takeAway (l := l.filter (fun z => !cutS w s i z)) ha3.2.2.1 (fun k hk => ((hl.2.2.1 k).mp (List.mem_filter.mp hk).1).1) (hl.2.1.filter _) hll ha3.2.2.2.1 (List.mem_filter.mpr ⟨(hl.2.2.1 _).mpr ⟨hk, p⟩, by rw [cutS_not]; rfl⟩) (fun σ' hA => ?_)
      refine alE (jI_add _ _) (alE (jI_add _ _) (hLL _ (by omega) ⟨?_, rfl, ?_⟩))
      · rw [cutN_s, p]
        rfl
      · rw [← cutS_t p]
        exact ha3.trans hA
theorem n_cutSign {σ : ST} {w : Wd} {l : List Nat} {s : Nat} {a b : Int} {Q : Int32 → ST → Prop} (hR : RK σ w l) (hW : WF w) (hs : s < 16) (a1 : -2147483648 ≤ a) (a2 : a < 2147483648) (b1 : -2147483648 ≤ b) (b2 : b < 2147483648) (h0 : gw w (12 + s) = a → gw w (28 + s) = b → Q (jI 0) σ) (h1 : ¬ (gw w (12 + s) = a ∧ gw w (28 + s) = b) → ∀ σ' : ST, AwayS (zrp (zrp σ 0 s (jI a)) 1 s (jI b)).1 σ'.1 σ.2 σ'.2 l (cutS w s 9) → Q (jI (cutN w s 9 : Nat)) σ') : wp_X4_cutSign σ (jI (s : Nat)) (jI a) (jI b) Q := by
  have hlp : ∀ K : ST → Int32 → Prop, (∀ σ' : ST, AwayS (zrp (zrp σ 0 s (jI a)) 1 s (jI b)).1 σ'.1 σ.2 σ'.2 l (cutS w s 9) → K σ' (jI (cutN w s 9 : Nat))) → ∃ nn, wl_X4_cutSign_57 K (jI (s : Nat) * jI 9) nn (zrs (zrs σ 0 (jI (s : Nat)) (jI a)) 1 (jI (s : Nat)) (jI b)) (jI 0) (jI (s : Nat) * jI 9) := fun K hK => by
    rw [cs σ 0 s _ (by show s < 16; exact hs), cs _ 1 s _ (by show s < 16; exact hs), jI_mul, show (s : Int) * 9 = ((9 * s : Nat) : Int) by omega]
    have e : ∀ q : Nat, q ≠ 0 → q ≠ 1 → (zrp (zrp σ 0 s (jI a)) 1 s (jI b)).1 q = σ.1 q := fun q q0 q1 => (zrp_o q1).trans (zrp_o q0)
    refine n_cutLoop hW (fun k hk => ?_) ⟨fun i k hi => ?_, hR.2.2.1.2⟩ hR.n hs hK
    · rw [e 3 (by decide) (by decide)]
      exact (hR.2.1 k hk).1
    · rw [e 9 (by decide) (by decide)]
      exact hR.2.2.1.1 i k hi
  unfold wp_X4_cutSign
  refine alE ((cg σ 0 s (by show s < 16; exact hs)).trans ((hR.1.1 s hs).trans (gwj w _))) ?_
  refine qeq (gw_lo _ _) (gw_hi _ _) a1 a2 (fun c => ?_) (fun c => ?_)
  · refine alE ((cg σ 1 s (by show s < 16; exact hs)).trans ((hR.1.2.1 s hs).trans (gwj w _))) ?_
    refine qeq (gw_lo _ _) (gw_hi _ _) b1 b2 (fun c2 => h0 c c2) (fun c2 => ?_)
    exact al (al (al (hlp _ (h1 (fun q => c2 q.2)))))
  · exact al (al (al (hlp _ (h1 (fun q => c q.1)))))
theorem m_cutLoop {μ : ST} {s : Nat} {p1 p2 : Int32} {K : ST → Int32 → Prop} (hW : WF (μ.1 0)) (hs : s < 16) (h : ∀ μ' : ST, (∀ q : Nat, q ≠ 0 → μ'.1 q = μ.1 q) → μ'.2 = μ.2 → GoneS (μ.1 0) (μ'.1 0) (cutS (μ.1 0) s 9) → K μ' (jI (cutN (μ.1 0) s 9 : Nat))) : ∃ nn, wl_X7_cuts_37 K (jI (s : Nat)) p1 p2 nn μ (jI 0) (jI ((9 * s : Nat) : Int)) := by
  refine lp_inv (α := ST × Int32 × Int32) (L := fun n a => wl_X7_cuts_37 K (jI (s : Nat)) p1 p2 n a.1 a.2.1 a.2.2) (B := fun LL a => wb_X7_cuts_37 K (fun t y z => LL (t, y, z)) (jI (s : Nat)) p1 p2 a.1 a.2.1 a.2.2) (fun n a => rfl) (fun i a => a.2.1 = jI (cutN (μ.1 0) s i : Nat) ∧ a.2.2 = jI ((9 * s + i : Nat) : Int) ∧ (∀ q : Nat, q ≠ 0 → a.1.1 q = μ.1 q) ∧ a.1.2 = μ.2 ∧ GoneS (μ.1 0) (a.1.1 0) (cutS (μ.1 0) s i)) 9 (fun i a hi ha LL hLL => ?_) (μ, jI 0, jI ((9 * s : Nat) : Int)) ⟨jeq rfl, jeq (by omega), fun _ _ => rfl, rfl, GoneS.z _ _ (cutS_0 _ s) hW.2.2.2.2.2⟩
  obtain ⟨t, y, x⟩ := a
  obtain ⟨ha1, ha2, ha3, ha4, ha5⟩ := ha
  dsimp only at ha1 ha2 ha3 ha4 ha5 ⊢
  subst ha1 ha2
  unfold wb_X7_cuts_37
  rw [jI_mul, jI_add]
  refine qle (by omega) (by omega) (by omega) (by omega) (fun c => ?_) (fun c => ?_)
  · have e : i = 9 := by omega
    subst e
    exact h t ha3 ha4 ha5
  · have hk : 9 * s + i < 144 := by omega
    have eP : isP (t.1 0) (9 * s + i) = isP (μ.1 0) (9 * s + i) := by
      rw [ha5.qP hk, cutS_not]
      exact Bool.and_true _
    refine m_is hk ?_
    rw [eP]
    refine qb (fun p => ?_) (fun p => ?_)
    · refine alE (jI_add _ _) (hLL _ (by omega) ⟨?_, rfl, ha3, ha4, ?_⟩)
      · rw [cutN_s, p]
        rfl
      · rw [cutS_f p]
        exact ha5
    · refine m_goes (ha5.WF hW).2.2.2.2.2 hk (fun μ' g1 g2 g3 => ?_)
      refine alE (jI_add _ _) (alE (jI_add _ _) (hLL _ (by omega) ⟨?_, rfl, fun q hq => (g1 q hq).trans (ha3 q hq), g2.trans ha4, ?_⟩))
      · rw [cutN_s, p]
        rfl
      · rw [← cutS_t p]
        refine ha5.trans g3 (fun z hz => beq_eq_false_iff_ne.mpr (fun q => ?_))
        subst q
        rw [cutS_not] at hz
        cases hz
def cutW (w9 : Wd) (s : Nat) (a b : Int) : Wd := upd (upd w9 (12 + s) (jI a)) (28 + s) (jI b)
theorem m_cuts {μ : ST} {s : Nat} {a b : Int} {Q : Int32 → ST → Prop} (hW : WF (μ.1 0)) (hs : s < 16) (a1 : -2147483648 ≤ a) (a2 : a < 2147483648) (b1 : -2147483648 ≤ b) (b2 : b < 2147483648) (h0 : gw (μ.1 0) (12 + s) = a → gw (μ.1 0) (28 + s) = b → Q (jI 0) μ) (h1 : ¬ (gw (μ.1 0) (12 + s) = a ∧ gw (μ.1 0) (28 + s) = b) → ∀ (μ' : ST) (w9 : Wd), (∀ q : Nat, q ≠ 0 → μ'.1 q = μ.1 q) → μ'.2 = μ.2 → GoneS (μ.1 0) w9 (cutS (μ.1 0) s 9) → μ'.1 0 = cutW w9 s a b → Q (jI (cutN (μ.1 0) s 9 : Nat)) μ') : wp_X7_cuts μ (jI (s : Nat)) (jI a) (jI b) Q := by
  have e12 : jI 12 + jI (s : Nat) = jI ((12 + s : Nat) : Int) := by rw [jI_add]; exact jeq (by omega)
  have e28 : jI 28 + jI (s : Nat) = jI ((28 + s : Nat) : Int) := by rw [jI_add]; exact jeq (by omega)
  have e9 : jI 9 * jI (s : Nat) = jI ((9 * s : Nat) : Int) := by rw [jI_mul]; exact jeq (by omega)
  have hend : ¬ (gw (μ.1 0) (12 + s) = a ∧ gw (μ.1 0) (28 + s) = b) → ∀ μ' : ST, (∀ q : Nat, q ≠ 0 → μ'.1 q = μ.1 q) → μ'.2 = μ.2 → GoneS (μ.1 0) (μ'.1 0) (cutS (μ.1 0) s 9) → (vp_in ((jI 12) + jI (s : Nat)) 983 ∧ ∀ s7 : ST, s7 = zrp μ' 0 ((jI 12) + jI (s : Nat)).toNatClampNeg (jI a) → (vp_in ((jI 28) + jI (s : Nat)) 983 ∧ ∀ s8 : ST, s8 = zrp s7 0 ((jI 28) + jI (s : Nat)).toNatClampNeg (jI b) → Q (jI (cutN (μ.1 0) s 9 : Nat)) s8)) := fun hne μ' g1 g2 g3 => by
    refine m_wr (12 + s) e12 (by omega) (by decide) (m_wr (28 + s) e28 (by omega) (by decide) (h1 hne _ (μ'.1 0) (fun q hq => ?_) g2 g3 ?_))
    · exact (zrp_o hq).trans ((zrp_o hq).trans (g1 q hq))
    · rw [zrp0, zrp0]
      rfl
  unfold wp_X7_cuts
  refine m_rd (12 + s) e12 (by omega) (by decide) ?_
  rw [gwj (μ.1 0) (12 + s)]
  refine qeq (gw_lo _ _) (gw_hi _ _) a1 a2 (fun c => ?_) (fun c => ?_)
  · refine m_rd (28 + s) e28 (by omega) (by decide) ?_
    rw [gwj (μ.1 0) (28 + s)]
    refine qeq (gw_lo _ _) (gw_hi _ _) b1 b2 (fun c2 => h0 c c2) (fun c2 => ?_)
    exact alE e9 (m_cutLoop hW hs (hend (fun q => c2 q.2)))
  · exact alE e9 (m_cutLoop hW hs (hend (fun q => c q.1)))
section CUW
variable {w : Wd} {s : Nat} {a b : Int}
theorem cutW_o {j : Nat} (h1 : j ≠ 12 + s) (h2 : j ≠ 28 + s) : cutW w s a b j = w j := (upd_o h2).trans (upd_o h1)
theorem cutW_g {j : Nat} (h1 : j ≠ 12 + s) (h2 : j ≠ 28 + s) : gw (cutW w s a b) j = gw w j := congrArg Int32.toInt (cutW_o h1 h2)
theorem cutW_w {k : Nat} (hk : k < 144) (hs : k / 9 ≠ s) : wdt (cutW w s a b) k = wdt w k := by unfold wdt; rw [cutW_g (j := 12 + k / 9) (by omega) (by omega)]
theorem cutW_h (h16 : s < 16) {k : Nat} (hk : k < 144) (hs : k / 9 ≠ s) : hgt (cutW w s a b) k = hgt w k := by unfold hgt; rw [cutW_g (j := 28 + k / 9) (by omega) (by omega)]
theorem cutW_WF (hW : WF w) (hs : s < 16) (ha : 1 ≤ a ∧ a ≤ 6) (hb9 : 1 ≤ b ∧ b ≤ 6) (hn : ∀ k, k < 144 → k / 9 = s → isP w k = false) : WF (cutW w s a b) := by
  have g := fun {j : Nat} => @cutW_g w s a b j
  obtain ⟨⟨a1, a2, a3, a4⟩, hb, hc, hd, ⟨he, hee⟩, ⟨f1, f2, f3, f4, f5⟩⟩ := hW
  have hT : ∀ k, aT (cutW w s a b) k = aT w k := fun k => g (by omega) (by omega)
  have hS : ∀ k, aS (cutW w s a b) k = aS w k := fun k => g (by omega) (by omega)
  have hX : ∀ k, aX (cutW w s a b) k = aX w k := fun k => g (by omega) (by omega)
  have hL : ∀ k, aL (cutW w s a b) k = aL w k := fun k => g (by omega) (by omega)
  have htl : ∀ t z, tl (cutW w s a b) t z = tl w t z := fun t z => g (by omega) (by omega)
  have hnS : ∀ t, nS (cutW w s a b) t = nS w t := fun t => g (by omega) (by omega)
  have hnT : nT (cutW w s a b) = nT w := g (by omega) (by omega)
  have htop : ∀ t z, topH (cutW w s a b) t z = topH w t z := fun t z => by
    induction z with
    | zero => rfl
    | succ z ih =>
      show topH (cutW w s a b) t z + tl (cutW w s a b) t z = topH w t z + tl w t z
      rw [ih, htl]
  have hst : strt (cutW w s a b) = strt w := by
    unfold strt
    rw [g (by omega) (by omega)]
    refine List.map_congr_left (fun i hi => ?_)
    have := List.mem_range.mp hi
    rw [g (by omega) (by omega)]
  have hP : ∀ k, isP (cutW w s a b) k = isP w k := fun k => by unfold isP; rw [hT]
  have hwd : ∀ k, k < 144 → aT w k ≠ -1 → k / 9 ≠ s := fun k hk hp q => hp (isP_f (hn k hk q))
  refine ⟨⟨by rw [hnT]; exact a1, by rw [hnT]; exact a2, fun z hz => ?_, fun z hz => ?_⟩, fun t ht => ?_, fun k hk => ?_, fun k k' hk hk' hne hl ht hs' => ?_, ⟨fun k hk hp => ?_, fun k k' hk hk' hp hp' hq => ?_⟩, ⟨by rw [g (by omega) (by omega)]; exact f1, by rw [g (by omega) (by omega)]; exact f2, fun i hi => ?_, by rw [hst]; exact f4, fun k => by rw [hst, hT]; exact f5 k⟩⟩
  · by_cases h : z = s
    · subst h
      rw [show gw (cutW w z a b) (12 + z) = a from gw_jI ((upd_o (by omega)).trans upd_at) (by omega) (by omega)]
      exact ha
    · rw [g (by omega) (by omega)]
      exact a3 z hz
  · by_cases h : z = s
    · subst h
      rw [show gw (cutW w z a b) (28 + z) = b from gw_jI upd_at (by omega) (by omega)]
      exact hb9
    · rw [g (by omega) (by omega)]
      exact a4 z hz
  · rw [hnT] at ht
    obtain ⟨b1, b2, b3, b4⟩ := hb t ht
    rw [hnS]
    exact ⟨b1, b2, fun z hz => by rw [htl]; exact b3 z hz, by rw [htop]; exact b4⟩
  · rw [hT, hS, hX, hnT, hnS, htl]
    rcases hc k hk with c1 | c1 | c1
    · exact Or.inl c1
    · exact Or.inr (Or.inl c1)
    · rw [cutW_w hk (hwd k hk (by omega)), cutW_h hs hk (hwd k hk (by omega))]
      exact Or.inr (Or.inr c1)
  · have hl : isL w k = true := by
      unfold isL at hl ⊢
      rw [hT] at hl
      exact hl
    have hl9 := isL_t hl
    rw [hT, hT] at ht
    rw [hS, hS] at hs'
    rw [hX, hX, cutW_w hk (hwd k hk (by omega)), cutW_w hk' (hwd k' hk' (by omega))]
    exact hd k k' hk hk' hne hl ht hs'
  · rw [hP] at hp
    rw [hL, g (by omega) (by omega)]
    exact he k hk hp
  · rw [hP] at hp hp'
    rw [hL, hL] at hq
    exact hee k k' hk hk' hp hp' hq
  · rw [g (by omega) (by omega)] at hi
    rw [g (by omega) (by omega)]
    exact f3 i hi
theorem cutW_RC {r r' : Nat → Nat → Int32} {c : Nat → Int32} {l : List Nat} (hW : WF w) (hs : s < 16) (hR : RC r c w l) (hn : ∀ k, k < 144 → k / 9 = s → isP w k = false) (h0 : r' 0 = upd (r 0) s (jI a)) (h1 : r' 1 = upd (r 1) s (jI b)) (h2 : ∀ q : Nat, q ≠ 0 → q ≠ 1 → r' q = r q) : RC r' c (cutW w s a b) l := by
  have g := fun {j : Nat} => @cutW_o w s a b j
  have f2 := hW.2.2.2.2.2.2.1
  obtain ⟨⟨a1, a2, a3⟩, hb, ⟨l1, l2, l3, l4⟩, ⟨c0, c1, c2, c3, c4, c5, c6, c7⟩⟩ := hR
  have hT : ∀ k, aT (cutW w s a b) k = aT w k := fun k => cutW_g (by omega) (by omega)
  have hS : ∀ k, aS (cutW w s a b) k = aS w k := fun k => cutW_g (by omega) (by omega)
  have hX : ∀ k, aX (cutW w s a b) k = aX w k := fun k => cutW_g (by omega) (by omega)
  have hnS : ∀ t, nS (cutW w s a b) t = nS w t := fun t => cutW_g (by omega) (by omega)
  have hnT : nT (cutW w s a b) = nT w := cutW_g (by omega) (by omega)
  have hst : strt (cutW w s a b) = strt w := by
    unfold strt
    rw [cutW_g (by omega) (by omega)]
    refine List.map_congr_left (fun i hi => ?_)
    have := List.mem_range.mp hi
    rw [cutW_g (by omega) (by omega)]
  have hP : ∀ k, isP (cutW w s a b) k = isP w k := fun k => by unfold isP; rw [hT]
  have hL : ∀ k, isL (cutW w s a b) k = isL w k := fun k => by unfold isL; rw [hT]
  refine ⟨⟨fun z hz => ?_, fun z hz => ?_, fun t z ht hz => ?_⟩, fun k hk => ?_, ⟨fun i k hi => ?_, l2, fun k => by rw [hP]; exact l3 k, ?_⟩, ⟨c0, c1.trans (g (by omega) (by omega)).symm, c2.trans (g (by omega) (by omega)).symm, c3.trans (g (by omega) (by omega)).symm, c4.trans (g (by omega) (by omega)).symm, c5.trans (g (by omega) (by omega)).symm, c6.trans (g (by omega) (by omega)).symm, c7.trans (g (by omega) (by omega)).symm⟩⟩
  · rw [h0]
    by_cases h : z = s
    · subst h
      exact upd_at.trans ((upd_o (by omega)).trans upd_at).symm
    · rw [upd_o h, g (by omega) (by omega)]
      exact a1 z hz
  · rw [h1]
    by_cases h : z = s
    · subst h
      exact upd_at.trans upd_at.symm
    · rw [upd_o h, g (by omega) (by omega)]
      exact a2 z hz
  · rw [h2 2 (by decide) (by decide), hnT, hnS, g (by omega) (by omega)]
    exact a3 t z ht hz
  · obtain ⟨b1, b2, b3⟩ := hb k hk
    rw [h2 3 (by decide) (by decide), h2 4 (by decide) (by decide), h2 5 (by decide) (by decide), h2 6 (by decide) (by decide), h2 7 (by decide) (by decide), h2 8 (by decide) (by decide), hL, hP, hX, g (j := 119 + 6 * k + 3) (by omega) (by omega), g (j := 119 + 6 * k + 4) (by omega) (by omega), g (j := 119 + 6 * k + 5) (by omega) (by omega)]
    refine ⟨?_, fun hl => ?_, b3⟩
    · unfold slo at b1 ⊢
      rw [hT, hS]
      exact b1
    · rw [cutW_w hk (fun q => ?_)]
      · exact b2 hl
      · have := isL_P (hn k hk q)
        rw [this] at hl
        cases hl
  · rw [h2 9 (by decide) (by decide)]
    exact l1 i k hi
  · rw [hst, ← l4]
    exact List.filter_congr (fun k hk => by rw [hT])
end CUW
theorem core_cut {σ μ σ' μ' : ST} {l : List Nat} {s : Nat} {a b : Int} {w9 : Wd} (hW : WF (μ.1 0)) (hR : RK σ (μ.1 0) l) (hs : s < 16) (ha : 1 ≤ a ∧ a ≤ 6) (hb : 1 ≤ b ∧ b ≤ 6) (hA : AwayS (zrp (zrp σ 0 s (jI a)) 1 s (jI b)).1 σ'.1 σ.2 σ'.2 l (cutS (μ.1 0) s 9)) (hq : ∀ q : Nat, q ≠ 0 → μ'.1 q = μ.1 q) (h2 : μ'.2 = μ.2) (hg : GoneS (μ.1 0) w9 (cutS (μ.1 0) s 9)) (hw : μ'.1 0 = cutW w9 s a b) : Core 0 σ μ σ' μ' := by
  have hn : ∀ k, k < 144 → k / 9 = s → isP w9 k = false := fun k hk hks => by
    rw [hg.qP hk]
    unfold cutS
    rw [bo_t (show 9 * s ≤ k ∧ k < 9 * s + 9 by omega)]
    cases isP (μ.1 0) k <;> rfl
  have e : ∀ q : Nat, q ≠ 0 → q ≠ 1 → (zrp (zrp σ 0 s (jI a)) 1 s (jI b)).1 q = σ.1 q := fun q q0 q1 => (zrp_o q1).trans (zrp_o q0)
  have hA2 : AwayS σ.1 (fun q => if q = 0 then σ.1 0 else if q = 1 then σ.1 1 else σ'.1 q) σ.2 σ'.2 l (cutS (μ.1 0) s 9) := by
    refine ⟨fun q h3 h9 => ?_, fun k hk => ?_, hA.2.2.1, hA.2.2.2.1, hA.2.2.2.2.1, hA.2.2.2.2.2⟩
    · dsimp only
      by_cases q0 : q = 0
      · rw [if_pos q0, q0]
      · by_cases q1 : q = 1
        · rw [if_neg q0, if_pos q1, q1]
        · rw [if_neg q0, if_neg q1, hA.1 q h3 h9, e q q0 q1]
    · have := hA.2.1 k hk
      rw [e 3 (by decide) (by decide)] at this
      exact this
  have hR9 := hR.gone hW hA2 hg (cutS_P _ _ _)
  have hW9 := hg.WF hW
  refine ⟨⟨fun r hr => (hA.1 r (by omega) (by omega)).trans (e r (by omega) (by omega)), fun c h1 _ => hA.2.2.2.2.2 c (by omega) (by omega)⟩, ⟨fun r h1 _ => hq r h1, fun c _ => by rw [h2]⟩, ?_, ⟨l.filter (fun z => !cutS (μ.1 0) s 9 z), ?_⟩, ?_⟩
  · rw [hw]
    exact cutW_WF hW9 hs ha hb hn
  · rw [hw]
    refine cutW_RC hW9 hs hR9 hn ?_ ?_ (fun q q0 q1 => ?_)
    · exact (hA.1 0 (by decide) (by decide)).trans ((zrp_o (by decide)).trans zrp_at)
    · refine (hA.1 1 (by decide) (by decide)).trans (zrp_at.trans ?_)
      rw [zrp_o (by decide)]
      rfl
    · rw [if_neg q0, if_neg q1]
  · rw [hw, cutW_g (by omega) (by omega), hg.g (by decide) (by decide) (by decide)]
    omega
def fcu (a b c : Int) : Int := if 0 ≤ a ∧ a ≤ 15 then (if (1 ≤ b ∧ b ≤ 6) ∧ (1 ≤ c ∧ c ≤ 6) then 0 else 2) else 1
theorem fcu_0 {a b c : Int} (h : fcu a b c = 0) : (0 ≤ a ∧ a ≤ 15) ∧ (1 ≤ b ∧ b ≤ 6) ∧ (1 ≤ c ∧ c ≤ 6) := by
  unfold fcu at h
  by_cases h1 : 0 ≤ a ∧ a ≤ 15
  · rw [if_pos h1] at h
    by_cases h2 : (1 ≤ b ∧ b ≤ 6) ∧ (1 ≤ c ∧ c ≤ 6)
    · exact ⟨h1, h2⟩
    · rw [if_neg h2] at h
      omega
  · rw [if_neg h1] at h
    omega
theorem fcu_b (a b c : Int) : 0 ≤ fcu a b c ∧ fcu a b c ≤ 2 := by
  unfold fcu
  split
  · split <;> omega
  · omega
section FCU
variable {σ : ST} {Q : Int32 → ST → Prop} {a b c : Int}
theorem n_faultOfCut (h1 : -2147483648 ≤ a) (h2 : a < 2147483648) (h3 : -2147483648 ≤ b) (h4 : b < 2147483648) (h5 : -2147483648 ≤ c) (h6 : c < 2147483648) (h : Q (jI (fcu a b c)) σ) : wp_X6_faultOfCut σ (jI a) (jI b) (jI c) Q := by
  unfold wp_X6_faultOfCut wp_X6_isSign
  unfold fcu at h
  refine c_in h1 h2 (by decide) (by decide) (by decide) (by decide) ⟨nar_b _, qb (fun c1 => ?_) (fun c1 => ?_)⟩
  · rw [if_neg (of_decide_eq_false c1)] at h
    exact h
  rw [if_pos (of_decide_eq_true c1)] at h
  refine c_in h3 h4 (by decide) (by decide) (by decide) (by decide) (qb (fun c2 => ?_) (fun c2 => ?_))
  · rw [if_neg (fun q => of_decide_eq_false c2 q.1)] at h
    exact h
  refine c_in h5 h6 (by decide) (by decide) (by decide) (by decide) (qb (fun c3 => ?_) (fun c3 => ?_))
  · rw [if_neg (fun q => of_decide_eq_false c3 q.2)] at h
    exact h
  rw [if_pos ⟨of_decide_eq_true c2, of_decide_eq_true c3⟩] at h
  exact h
theorem m_cutBars (h1 : -2147483648 ≤ a) (h2 : a < 2147483648) (h3 : -2147483648 ≤ b) (h4 : b < 2147483648) (h5 : -2147483648 ≤ c) (h6 : c < 2147483648) (h : Q (jI (fcu a b c)) σ) : wp_X7_cutBars σ (jI a) (jI b) (jI c) Q := by
  unfold wp_X7_cutBars
  unfold fcu at h
  refine m_in h1 h2 (by decide) (by decide) (by decide) (by decide) (qb (fun c1 => ?_) (fun c1 => ?_))
  · rw [if_neg (of_decide_eq_false c1)] at h
    exact h
  rw [if_pos (of_decide_eq_true c1)] at h
  refine m_in h3 h4 (by decide) (by decide) (by decide) (by decide) (qb (fun c2 => ?_) (fun c2 => ?_))
  · rw [if_neg (fun q => of_decide_eq_false c2 q.1)] at h
    exact h
  refine m_in h5 h6 (by decide) (by decide) (by decide) (by decide) (qb (fun c3 => ?_) (fun c3 => ?_))
  · rw [if_neg (fun q => of_decide_eq_false c3 q.2)] at h
    exact h
  rw [if_pos ⟨of_decide_eq_true c2, of_decide_eq_true c3⟩] at h
  exact h
end FCU
set_option maxHeartbeats 1000000 in
theorem s_cut : st_cut Inv := by
  intro n σ μ v p1 p2 p3 hn hI
  obtain ⟨a, rfl, a1, a2⟩ := jI_ex p1
  obtain ⟨b, rfl, b1, b2⟩ := jI_ex p2
  obtain ⟨c, rfl, c1, c2⟩ := jI_ex p3
  have hI' := hI
  obtain ⟨hW, hcl, ⟨l, hR⟩, -⟩ := hI'
  have hf := fcu_b a b c
  unfold wL_cut wx_X6_cut
  refine n_faultOfCut a1 a2 b1 b2 c1 c2 ?_
  have hth : ∀ e : Int, (e = 1 ∨ e = 2) → fcu a b c = e → wp_X7_cut μ (jI a) (jI b) (jI c) (fun r μ1 => wp_X7_thrown μ1 (fun th μ2 => th = jI e ∧ (jI e = jI 0 → v = r.toInt64) ∧ Inv (n + 1) σ μ2)) := by
    intro e he h9
    unfold wp_X7_cut
    refine m_cutBars a1 a2 b1 b2 c1 c2 (al ?_)
    rw [zsp_at, h9]
    refine qf (jnle (by omega)) ?_
    unfold wp_X7_thrown
    exact ⟨zsp_at, fun q => absurd q (jne (by omega)), hI.next (same_rf σ) (sameM_th μ 1 _ (by decide) (by decide))⟩
  refine x_throw ⟨hf.1, by omega⟩ (fun q => hth 1 (Or.inl rfl) q) (fun q => hth 2 (Or.inr rfl) q) (fun q => by omega) (fun e => ?_)
  obtain ⟨g1, g2, g3⟩ := fcu_0 e
  obtain ⟨s, rfl⟩ : ∃ s : Nat, a = s := ⟨a.toNat, by omega⟩
  refine op_save hI (fun σ1 k1 k2 hs => ?_)
  have hR1 : RK σ1 (μ.1 0) l := RC_congr hR (fun j hj => k1 j (by omega)) (fun j hj => k2 j (by omega))
  have hm : ∀ (z : Int32) (σ2 : ST), (∀ μ1 : ST, μ1.1 0 = μ.1 0 → μ1.2 1 = jI 0 → UN n σ1 μ1 → TX σ1 μ1 → wp_X7_cuts μ1 (jI (s : Nat)) (jI b) (jI c) (fun r μ2 => wp_X7_thrown μ2 (fun th μ2 => th = jI 0 ∧ (jI 0 = jI 0 → z.toInt64 = r.toInt64) ∧ Inv (n + 1) σ2 μ2))) → wp_X7_cut μ (jI (s : Nat)) (jI b) (jI c) (fun r μ1 => wp_X7_thrown μ1 (fun th μ2 => th = jI 0 ∧ (jI 0 = jI 0 → z.toInt64 = r.toInt64) ∧ Inv (n + 1) σ2 μ2)) := by
    intro z σ2 h9
    unfold wp_X7_cut
    refine m_cutBars a1 a2 b1 b2 c1 c2 (al ?_)
    rw [zsp_at, e]
    refine qt (jle (by decide) (by decide) (by decide)) (hs _ (sameM_th μ 1 _ (by decide) (by decide)) _ (fun μ1 q1 q2 hu ht => ?_))
    exact h9 μ1 (q1 0 (by decide)) ((q2 1 (by decide)).trans zsp_at) hu ht
  refine n_cutSign hR1 hW (by omega) b1 b2 c1 c2 (fun h1 h2 => ?_) (fun hne σ2 hA => ?_)
  · refine hm _ _ (fun μ1 e0 e1 hu ht => ?_)
    refine m_cuts (by rw [e0]; exact hW) (by omega) b1 b2 c1 c2 (fun _ _ => ?_) (fun q => absurd (by rw [e0]; exact ⟨h1, h2⟩) q)
    unfold wp_X7_thrown
    exact ⟨e1, fun _ => rfl, Inv.core hu ht (by rw [e0]; exact hcl) (by decide) ⟨Kp.rf _, KpM.rf _, by rw [e0]; exact hW, ⟨l, by rw [e0]; exact hR1⟩, (by omega : gw (μ1.1 0) 2 ≤ gw (μ1.1 0) 2 ∧ gw (μ1.1 0) 2 ≤ gw (μ1.1 0) 2 + ((0 : Nat) : Int))⟩⟩
  · refine hm _ _ (fun μ1 e0 e1 hu ht => ?_)
    refine m_cuts (by rw [e0]; exact hW) (by omega) b1 b2 c1 c2 (fun h1 h2 => absurd (by rw [e0] at h1 h2; exact ⟨h1, h2⟩) hne) (fun _ μ2 w9 q1 q2 hg hw => ?_)
    unfold wp_X7_thrown
    refine ⟨by rw [q2]; exact e1, fun _ => by rw [e0], Inv.core hu ht (by rw [e0]; exact hcl) (by decide) (core_cut (l := l) (by rw [e0]; exact hW) (by rw [e0]; exact hR1) (by omega) g2 g3 (by rw [e0]; exact hA) q1 q2 hg hw)⟩
theorem last_66 : True := trivial
